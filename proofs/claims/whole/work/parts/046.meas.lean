variable {p : Program} {l : Launch} {e : Env} {s : State} {m : MethodId} {args : Array Value} {below : List Frame} {meth : Method} {c : Code} {D : va_G} {cy : Nat → ClassId} {A : Nat → Prop} {H : Heap} {locs : List Loc} {ls : Array Slot} {Q : State → Prop}
def f_X3_putCell (v1 : Int32) (v2 : Int32) (v3 : Int64) (m_h_grid : Nat → Int64) : Option ((Nat → Int64)) :=
  zl ((v1 * (11 : Int32)) + v2) fun x6 =>
  if x6 < 0 then
    some m_h_grid
  else
    if (132 : Int32) ≤ x6 then
      some m_h_grid
    else
      zc x6 132 <|
      zl (vp_updL m_h_grid x6.toNatClampNeg v3) fun a30 =>
      some a30
set_option maxHeartbeats 4000000 in
set_option maxRecDepth 100000 in
theorem k_X3_putCell {h q_h_rules q_h_codes q_h_volts q_h_grid : Nat} {v1 : Int32} {v2 : Int32} {v3 : Int64} {m_h_unknowns : Int32} {m_h_size : Int32} {m_h_divisor : Int64} {m_h_grid : Nat → Int64} {z : (Nat → Int64)} (C : cx p s m args meth c cX3_putCell 6 none RX3 D cy A) (hf : f_X3_putCell v1 v2 v3 m_h_grid = some z) (hP : va_P D vwCl [(h, .inr (3, [.ref q_h_rules, .ref q_h_codes, .ref q_h_volts, .ref q_h_grid, .int m_h_unknowns, .int m_h_size, .long m_h_divisor])), (q_h_grid, aJ cy 132 m_h_grid)] H) (hD : va_D A [(h, .inr (3, [.ref q_h_rules, .ref q_h_codes, .ref q_h_volts, .ref q_h_grid, .int m_h_unknowns, .int m_h_size, .long m_h_divisor])), (q_h_grid, aJ cy 132 m_h_grid)]) (hS : va_S A s.heap H locs) (hl : lv_has ls 6 [(0, .ref h), (1, .int v1), (2, .int v2), (3, .long v3)]) : W p l e ({ frames := 0, cells := 0, slots := 0, locals := 0 } : Room) s m args below meth c H locs 0 0 (MQ below (kqv D cy [(h, .inr (3, [.ref q_h_rules, .ref q_h_codes, .ref q_h_volts, .ref q_h_grid, .int m_h_unknowns, .int m_h_size, .long m_h_divisor])), (q_h_grid, aJ cy 132 z)] A) args s 0 0 A) (F0 m 0 ls []) := by
  obtain ⟨hx, hb, hr, hml, hown, hts, hlk, hK, hA, hN⟩ := id C
  unfold f_X3_putCell at hf
  refine lv_iload_n hx hb dX3_putCell_0 rfl (lv_at hl 1 rfl) ?_
  refine lv_bipush (v := 11) hx hb dX3_putCell_1 (by decide) ?_
  refine lv_imul hx hb dX3_putCell_3 ?_
  refine lv_iload_n hx hb dX3_putCell_4 rfl (lv_at hl 2 rfl) ?_
  refine lv_iadd hx hb dX3_putCell_5 ?_
  refine lv_topi (fun x6 ex6 => ?_)
  have hf := zl_of hf x6 ex6
  refine lv_istore (lv' := [(5, .int x6), (0, .ref h), (1, .int v1), (2, .int v2), (3, .long v3)]) hx hb dX3_putCell_6 hl (by decide) rfl (fun ls hl => ?_)
  refine lv_iload hx hb dX3_putCell_8 (lv_at hl 0 rfl) ?_
  refine lv_if_lt (tgt := 31) hx hb dX3_putCell_10 (by decide) (fun c10 => ?_) (fun c10 => ?_)
  · have hf := zt c10 hf
    obtain rfl := Option.some.inj hf
    exact ret_v C hP hD hS dX3_putCell_31
  · have hf := zf c10 hf
    refine lv_iload hx hb dX3_putCell_13 (lv_at hl 0 rfl) ?_
    refine lv_aload_n hx hb dX3_putCell_15 rfl (lv_at hl 1 rfl) ?_
    refine va_get (D := D) (ci := 3) (v := .ref q_h_grid) (C := RX3) (T := TX3) (N := 7) hx hb hts ui_X3 hown hK hP 0 rfl rfl 3 (by decide) (hts _ fl_X3_20) (fun _ h9 => h9) rfl dX3_putCell_16 ?_
    refine va_alen (v := (132 : Int32)) hx hb hK hP 1 2 rfl rfl rfl dX3_putCell_19 ?_
    refine lv_icmp_ge (tgt := 31) hx hb dX3_putCell_20 (by decide) (fun c20 => ?_) (fun c20 => ?_)
    · have hf := zt c20 hf
      obtain rfl := Option.some.inj hf
      exact ret_v C hP hD hS dX3_putCell_31
    · have hf := zf c20 hf
      refine lv_aload_n hx hb dX3_putCell_23 rfl (lv_at hl 1 rfl) ?_
      refine va_get (D := D) (ci := 3) (v := .ref q_h_grid) (C := RX3) (T := TX3) (N := 7) hx hb hts ui_X3 hown hK hP 0 rfl rfl 3 (by decide) (hts _ fl_X3_20) (fun _ h9 => h9) rfl dX3_putCell_24 ?_
      refine lv_iload hx hb dX3_putCell_27 (lv_at hl 0 rfl) ?_
      refine lv_lload_n hx hb dX3_putCell_29 rfl (lv_at hl 4 rfl) ?_
      obtain ⟨hin, hf⟩ := zc_of hf
      obtain ⟨a30, ea30⟩ : ∃ y : Nat → Int64, y = vp_updL m_h_grid x6.toNatClampNeg v3 := ⟨_, rfl⟩
      have hf := zl_of hf a30 ea30
      refine va_last hx hb hK hP hD hS 1 2 rfl rfl hin dX3_putCell_30 (fun H locs hP hD hS => ?_)
      rw [← ea30] at hP hD
      have hP : va_P D vwCl [(h, .inr (3, [.ref q_h_rules, .ref q_h_codes, .ref q_h_volts, .ref q_h_grid, .int m_h_unknowns, .int m_h_size, .long m_h_divisor])), (q_h_grid, aJ cy 132 a30)] H := hP
      have hD : va_D A [(h, .inr (3, [.ref q_h_rules, .ref q_h_codes, .ref q_h_volts, .ref q_h_grid, .int m_h_unknowns, .int m_h_size, .long m_h_divisor])), (q_h_grid, aJ cy 132 a30)] := hD
      obtain rfl := Option.some.inj hf
      exact ret_v C hP hD hS dX3_putCell_31
set_option maxRecDepth 100000 in
theorem c_X3_putCell (l : Launch) (D : va_G) (cy : Nat → ClassId) (sz : Nat) (h q_h_rules q_h_codes q_h_volts q_h_grid : Nat) (v1 : Int32) (v2 : Int32) (v3 : Int64) (m_h_unknowns : Int32) (m_h_size : Int32) (m_h_divisor : Int64) (m_h_grid : Nat → Int64) {z : (Nat → Int64)} (hf : f_X3_putCell v1 v2 v3 m_h_grid = some z) : Met l yX3_putCell (.code yX3_putCell cX3_putCell 6 none :: tb) ({ frames := 0, cells := 0, slots := 0, locals := 0 } : Room) (kp D cy sz [.ref h, .int v1, .int v2, .long v3] [(h, .inr (3, [.ref q_h_rules, .ref q_h_codes, .ref q_h_volts, .ref q_h_grid, .int m_h_unknowns, .int m_h_size, .long m_h_divisor])), (q_h_grid, aJ cy 132 m_h_grid)]) (kqv D cy [(h, .inr (3, [.ref q_h_rules, .ref q_h_codes, .ref q_h_volts, .ref q_h_grid, .int m_h_unknowns, .int m_h_size, .long m_h_divisor])), (q_h_grid, aJ cy 132 z)] (va_A [(h, .inr (3, [.ref q_h_rules, .ref q_h_codes, .ref q_h_volts, .ref q_h_grid, .int m_h_unknowns, .int m_h_size, .long m_h_divisor])), (q_h_grid, aJ cy 132 m_h_grid)] sz)) 0 0 (va_A [(h, .inr (3, [.ref q_h_rules, .ref q_h_codes, .ref q_h_volts, .ref q_h_grid, .int m_h_unknowns, .int m_h_size, .long m_h_divisor])), (q_h_grid, aJ cy 132 m_h_grid)] sz) :=
  met_of (fun A => kqv D cy [(h, .inr (3, [.ref q_h_rules, .ref q_h_codes, .ref q_h_volts, .ref q_h_grid, .int m_h_unknowns, .int m_h_size, .long m_h_divisor])), (q_h_grid, aJ cy 132 z)] A) (by decide +kernel) (Nat.le_of_ble_eq_true rfl) (fun p e s m below meth c A ls C hP hD hS hl => k_X3_putCell C hf hP hD hS hl)
theorem hd_X3_putCell : yX3_putCell.cls ≠ "java/lang/invoke/MethodHandle" ∧ yX3_putCell.cls ≠ "java/lang/invoke/VarHandle" ∧ (parseMethodDescriptor yX3_putCell.desc).map (fun d => d.parameters.length) = some 3 := by decide +kernel
def f_X3_codeAt (v1 : Int32) (m_h_codes : Nat → Int32) : Option (Int32) :=
  if v1 < 0 then
    some (0 : Int32)
  else
    if (12 : Int32) ≤ v1 then
      some (0 : Int32)
    else
      zc v1 12 <|
      some (m_h_codes v1.toNatClampNeg)
set_option maxHeartbeats 4000000 in
set_option maxRecDepth 100000 in
theorem k_X3_codeAt {h q_h_rules q_h_codes q_h_volts q_h_grid : Nat} {v1 : Int32} {m_h_unknowns : Int32} {m_h_size : Int32} {m_h_divisor : Int64} {m_h_codes : Nat → Int32} {z : Int32} (C : cx p s m args meth c cX3_codeAt 2 (some .int) RX3 D cy A) (hf : f_X3_codeAt v1 m_h_codes = some z) (hP : va_P D vwCl [(h, .inr (3, [.ref q_h_rules, .ref q_h_codes, .ref q_h_volts, .ref q_h_grid, .int m_h_unknowns, .int m_h_size, .long m_h_divisor])), (q_h_codes, aI cy 12 m_h_codes)] H) (hD : va_D A [(h, .inr (3, [.ref q_h_rules, .ref q_h_codes, .ref q_h_volts, .ref q_h_grid, .int m_h_unknowns, .int m_h_size, .long m_h_divisor])), (q_h_codes, aI cy 12 m_h_codes)]) (hS : va_S A s.heap H locs) (hl : lv_has ls 2 [(0, .ref h), (1, .int v1)]) : W p l e ({ frames := 0, cells := 0, slots := 0, locals := 0 } : Room) s m args below meth c H locs 0 0 (MQ below (kqi D cy [(h, .inr (3, [.ref q_h_rules, .ref q_h_codes, .ref q_h_volts, .ref q_h_grid, .int m_h_unknowns, .int m_h_size, .long m_h_divisor])), (q_h_codes, aI cy 12 m_h_codes)] z A) args s 0 0 A) (F0 m 0 ls []) := by
  obtain ⟨hx, hb, hr, hml, hown, hts, hlk, hK, hA, hN⟩ := id C
  unfold f_X3_codeAt at hf
  refine lv_iload_n hx hb dX3_codeAt_0 rfl (lv_at hl 1 rfl) ?_
  refine lv_if_lt (tgt := 22) hx hb dX3_codeAt_1 (by decide) (fun c1 => ?_) (fun c1 => ?_)
  · have hf := zt c1 hf
    refine lv_iconst (v := 0) hx hb dX3_codeAt_22 (by decide) ?_
    obtain rfl := Option.some.inj hf
    exact ret_i C hP hD hS dX3_codeAt_23
  · have hf := zf c1 hf
    refine lv_iload_n hx hb dX3_codeAt_4 rfl (lv_at hl 1 rfl) ?_
    refine lv_aload_n hx hb dX3_codeAt_5 rfl (lv_at hl 0 rfl) ?_
    refine va_get (D := D) (ci := 3) (v := .ref q_h_codes) (C := RX3) (T := TX3) (N := 7) hx hb hts ui_X3 hown hK hP 0 rfl rfl 1 (by decide) (hts _ fl_X3_13) (fun _ h9 => h9) rfl dX3_codeAt_6 ?_
    refine va_alen (v := (12 : Int32)) hx hb hK hP 1 1 rfl rfl rfl dX3_codeAt_9 ?_
    refine lv_icmp_ge (tgt := 22) hx hb dX3_codeAt_10 (by decide) (fun c10 => ?_) (fun c10 => ?_)
    · have hf := zt c10 hf
      refine lv_iconst (v := 0) hx hb dX3_codeAt_22 (by decide) ?_
      obtain rfl := Option.some.inj hf
      exact ret_i C hP hD hS dX3_codeAt_23
    · have hf := zf c10 hf
      refine lv_aload_n hx hb dX3_codeAt_13 rfl (lv_at hl 0 rfl) ?_
      refine va_get (D := D) (ci := 3) (v := .ref q_h_codes) (C := RX3) (T := TX3) (N := 7) hx hb hts ui_X3 hown hK hP 0 rfl rfl 1 (by decide) (hts _ fl_X3_13) (fun _ h9 => h9) rfl dX3_codeAt_14 ?_
      refine lv_iload_n hx hb dX3_codeAt_17 rfl (lv_at hl 1 rfl) ?_
      obtain ⟨hin, hf⟩ := zc_of hf
      refine va_iald hx hb hK hP 1 1 rfl rfl hin dX3_codeAt_18 ?_
      refine lv_goto (tgt := 23) hx hb dX3_codeAt_19 (by decide) ?_
      obtain rfl := Option.some.inj hf
      exact ret_i C hP hD hS dX3_codeAt_23
set_option maxRecDepth 100000 in
theorem c_X3_codeAt (l : Launch) (D : va_G) (cy : Nat → ClassId) (sz : Nat) (h q_h_rules q_h_codes q_h_volts q_h_grid : Nat) (v1 : Int32) (m_h_unknowns : Int32) (m_h_size : Int32) (m_h_divisor : Int64) (m_h_codes : Nat → Int32) {z : Int32} (hf : f_X3_codeAt v1 m_h_codes = some z) : Met l yX3_codeAt (.code yX3_codeAt cX3_codeAt 2 (some .int) :: tb) ({ frames := 0, cells := 0, slots := 0, locals := 0 } : Room) (kp D cy sz [.ref h, .int v1] [(h, .inr (3, [.ref q_h_rules, .ref q_h_codes, .ref q_h_volts, .ref q_h_grid, .int m_h_unknowns, .int m_h_size, .long m_h_divisor])), (q_h_codes, aI cy 12 m_h_codes)]) (kqi D cy [(h, .inr (3, [.ref q_h_rules, .ref q_h_codes, .ref q_h_volts, .ref q_h_grid, .int m_h_unknowns, .int m_h_size, .long m_h_divisor])), (q_h_codes, aI cy 12 m_h_codes)] z (va_A [(h, .inr (3, [.ref q_h_rules, .ref q_h_codes, .ref q_h_volts, .ref q_h_grid, .int m_h_unknowns, .int m_h_size, .long m_h_divisor])), (q_h_codes, aI cy 12 m_h_codes)] sz)) 0 0 (va_A [(h, .inr (3, [.ref q_h_rules, .ref q_h_codes, .ref q_h_volts, .ref q_h_grid, .int m_h_unknowns, .int m_h_size, .long m_h_divisor])), (q_h_codes, aI cy 12 m_h_codes)] sz) :=
  met_of (fun A => kqi D cy [(h, .inr (3, [.ref q_h_rules, .ref q_h_codes, .ref q_h_volts, .ref q_h_grid, .int m_h_unknowns, .int m_h_size, .long m_h_divisor])), (q_h_codes, aI cy 12 m_h_codes)] z A) (by decide +kernel) (Nat.le_of_ble_eq_true rfl) (fun p e s m below meth c A ls C hP hD hS hl => k_X3_codeAt C hf hP hD hS hl)
theorem hd_X3_codeAt : yX3_codeAt.cls ≠ "java/lang/invoke/MethodHandle" ∧ yX3_codeAt.cls ≠ "java/lang/invoke/VarHandle" ∧ (parseMethodDescriptor yX3_codeAt.desc).map (fun d => d.parameters.length) = some 1 := by decide +kernel
def f_X3_voltAt (v1 : Int32) (m_h_volts : Nat → Int32) : Option (Int32) :=
  if v1 < 0 then
    some (0 : Int32)
  else
    if (12 : Int32) ≤ v1 then
      some (0 : Int32)
    else
      zc v1 12 <|
      some (m_h_volts v1.toNatClampNeg)
set_option maxHeartbeats 4000000 in
set_option maxRecDepth 100000 in
theorem k_X3_voltAt {h q_h_rules q_h_codes q_h_volts q_h_grid : Nat} {v1 : Int32} {m_h_unknowns : Int32} {m_h_size : Int32} {m_h_divisor : Int64} {m_h_volts : Nat → Int32} {z : Int32} (C : cx p s m args meth c cX3_voltAt 2 (some .int) RX3 D cy A) (hf : f_X3_voltAt v1 m_h_volts = some z) (hP : va_P D vwCl [(h, .inr (3, [.ref q_h_rules, .ref q_h_codes, .ref q_h_volts, .ref q_h_grid, .int m_h_unknowns, .int m_h_size, .long m_h_divisor])), (q_h_volts, aI cy 12 m_h_volts)] H) (hD : va_D A [(h, .inr (3, [.ref q_h_rules, .ref q_h_codes, .ref q_h_volts, .ref q_h_grid, .int m_h_unknowns, .int m_h_size, .long m_h_divisor])), (q_h_volts, aI cy 12 m_h_volts)]) (hS : va_S A s.heap H locs) (hl : lv_has ls 2 [(0, .ref h), (1, .int v1)]) : W p l e ({ frames := 0, cells := 0, slots := 0, locals := 0 } : Room) s m args below meth c H locs 0 0 (MQ below (kqi D cy [(h, .inr (3, [.ref q_h_rules, .ref q_h_codes, .ref q_h_volts, .ref q_h_grid, .int m_h_unknowns, .int m_h_size, .long m_h_divisor])), (q_h_volts, aI cy 12 m_h_volts)] z A) args s 0 0 A) (F0 m 0 ls []) := by
  obtain ⟨hx, hb, hr, hml, hown, hts, hlk, hK, hA, hN⟩ := id C
  unfold f_X3_voltAt at hf
  refine lv_iload_n hx hb dX3_voltAt_0 rfl (lv_at hl 1 rfl) ?_
  refine lv_if_lt (tgt := 22) hx hb dX3_voltAt_1 (by decide) (fun c1 => ?_) (fun c1 => ?_)
  · have hf := zt c1 hf
    refine lv_iconst (v := 0) hx hb dX3_voltAt_22 (by decide) ?_
    obtain rfl := Option.some.inj hf
    exact ret_i C hP hD hS dX3_voltAt_23
  · have hf := zf c1 hf
    refine lv_iload_n hx hb dX3_voltAt_4 rfl (lv_at hl 1 rfl) ?_
    refine lv_aload_n hx hb dX3_voltAt_5 rfl (lv_at hl 0 rfl) ?_
    refine va_get (D := D) (ci := 3) (v := .ref q_h_volts) (C := RX3) (T := TX3) (N := 7) hx hb hts ui_X3 hown hK hP 0 rfl rfl 2 (by decide) (hts _ fl_X3_17) (fun _ h9 => h9) rfl dX3_voltAt_6 ?_
    refine va_alen (v := (12 : Int32)) hx hb hK hP 1 1 rfl rfl rfl dX3_voltAt_9 ?_
    refine lv_icmp_ge (tgt := 22) hx hb dX3_voltAt_10 (by decide) (fun c10 => ?_) (fun c10 => ?_)
    · have hf := zt c10 hf
      refine lv_iconst (v := 0) hx hb dX3_voltAt_22 (by decide) ?_
      obtain rfl := Option.some.inj hf
      exact ret_i C hP hD hS dX3_voltAt_23
    · have hf := zf c10 hf
      refine lv_aload_n hx hb dX3_voltAt_13 rfl (lv_at hl 0 rfl) ?_
      refine va_get (D := D) (ci := 3) (v := .ref q_h_volts) (C := RX3) (T := TX3) (N := 7) hx hb hts ui_X3 hown hK hP 0 rfl rfl 2 (by decide) (hts _ fl_X3_17) (fun _ h9 => h9) rfl dX3_voltAt_14 ?_
      refine lv_iload_n hx hb dX3_voltAt_17 rfl (lv_at hl 1 rfl) ?_
      obtain ⟨hin, hf⟩ := zc_of hf
      refine va_iald hx hb hK hP 1 1 rfl rfl hin dX3_voltAt_18 ?_
      refine lv_goto (tgt := 23) hx hb dX3_voltAt_19 (by decide) ?_
      obtain rfl := Option.some.inj hf
      exact ret_i C hP hD hS dX3_voltAt_23
set_option maxRecDepth 100000 in
theorem c_X3_voltAt (l : Launch) (D : va_G) (cy : Nat → ClassId) (sz : Nat) (h q_h_rules q_h_codes q_h_volts q_h_grid : Nat) (v1 : Int32) (m_h_unknowns : Int32) (m_h_size : Int32) (m_h_divisor : Int64) (m_h_volts : Nat → Int32) {z : Int32} (hf : f_X3_voltAt v1 m_h_volts = some z) : Met l yX3_voltAt (.code yX3_voltAt cX3_voltAt 2 (some .int) :: tb) ({ frames := 0, cells := 0, slots := 0, locals := 0 } : Room) (kp D cy sz [.ref h, .int v1] [(h, .inr (3, [.ref q_h_rules, .ref q_h_codes, .ref q_h_volts, .ref q_h_grid, .int m_h_unknowns, .int m_h_size, .long m_h_divisor])), (q_h_volts, aI cy 12 m_h_volts)]) (kqi D cy [(h, .inr (3, [.ref q_h_rules, .ref q_h_codes, .ref q_h_volts, .ref q_h_grid, .int m_h_unknowns, .int m_h_size, .long m_h_divisor])), (q_h_volts, aI cy 12 m_h_volts)] z (va_A [(h, .inr (3, [.ref q_h_rules, .ref q_h_codes, .ref q_h_volts, .ref q_h_grid, .int m_h_unknowns, .int m_h_size, .long m_h_divisor])), (q_h_volts, aI cy 12 m_h_volts)] sz)) 0 0 (va_A [(h, .inr (3, [.ref q_h_rules, .ref q_h_codes, .ref q_h_volts, .ref q_h_grid, .int m_h_unknowns, .int m_h_size, .long m_h_divisor])), (q_h_volts, aI cy 12 m_h_volts)] sz) :=
  met_of (fun A => kqi D cy [(h, .inr (3, [.ref q_h_rules, .ref q_h_codes, .ref q_h_volts, .ref q_h_grid, .int m_h_unknowns, .int m_h_size, .long m_h_divisor])), (q_h_volts, aI cy 12 m_h_volts)] z A) (by decide +kernel) (Nat.le_of_ble_eq_true rfl) (fun p e s m below meth c A ls C hP hD hS hl => k_X3_voltAt C hf hP hD hS hl)
theorem hd_X3_voltAt : yX3_voltAt.cls ≠ "java/lang/invoke/MethodHandle" ∧ yX3_voltAt.cls ≠ "java/lang/invoke/VarHandle" ∧ (parseMethodDescriptor yX3_voltAt.desc).map (fun d => d.parameters.length) = some 1 := by decide +kernel
def f_X3_fillGrid_J65_34 (v3 : Int32) (k0 : Int64) (k1 : Int32) (k2 : Int32) (m_h_grid : Nat → Int64) : Option (Nat × (Int32 × (Nat → Int64))) :=
  zb (f_X3_putCell k2 k1 k0 m_h_grid) fun z65 =>
  zl (v3 + (1 : Int32)) fun x68 =>
  some (0, (x68, z65))
set_option maxHeartbeats 4000000 in
set_option maxRecDepth 100000 in
theorem k_X3_fillGrid_J65_34 {h q_h_rules q_h_codes q_h_volts q_h_grid q_h_rules_misses q_h_rules_resistors : Nat} {v1 : Int32} {v2 : Int32} {v3 : Int32} {k0 : Int64} {k1 : Int32} {k2 : Int32} {m_h_unknowns : Int32} {m_h_size : Int32} {m_h_divisor : Int64} {m_h_rules_bits : Int32} {m_h_rules_unit : Int32} {m_h_rules_offset : Int32} {m_h_rules_lean : Int32} {m_h_rules_ref : Int32} {m_h_rules_top : Int32} {m_h_codes : Nat → Int32} {m_h_volts : Nat → Int32} {m_h_grid : Nat → Int64} {z : Nat × (Int32 × (Nat → Int64))} (C : cx p s m args meth c cX3_fillGrid 4 none RX3 D cy A) (hf : f_X3_fillGrid_J65_34 v3 k0 k1 k2 m_h_grid = some z) (hP : va_P D vwCl [(h, .inr (3, [.ref q_h_rules, .ref q_h_codes, .ref q_h_volts, .ref q_h_grid, .int m_h_unknowns, .int m_h_size, .long m_h_divisor])), (q_h_rules, .inr (5, [.int m_h_rules_bits, .int m_h_rules_unit, .int m_h_rules_offset, .int m_h_rules_lean, .int m_h_rules_ref, .int m_h_rules_top, .ref q_h_rules_misses, .ref q_h_rules_resistors])), (q_h_codes, aI cy 12 m_h_codes), (q_h_volts, aI cy 12 m_h_volts), (q_h_grid, aJ cy 132 m_h_grid)] H) (hD : va_D A [(h, .inr (3, [.ref q_h_rules, .ref q_h_codes, .ref q_h_volts, .ref q_h_grid, .int m_h_unknowns, .int m_h_size, .long m_h_divisor])), (q_h_rules, .inr (5, [.int m_h_rules_bits, .int m_h_rules_unit, .int m_h_rules_offset, .int m_h_rules_lean, .int m_h_rules_ref, .int m_h_rules_top, .ref q_h_rules_misses, .ref q_h_rules_resistors])), (q_h_codes, aI cy 12 m_h_codes), (q_h_volts, aI cy 12 m_h_volts), (q_h_grid, aJ cy 132 m_h_grid)]) (hS : va_S A s.heap H locs) (hl : lv_has ls 4 [(0, .ref h), (1, .int v1), (2, .int v2), (3, .int v3)]) (hE0 : ∀ (H : Heap) (locs : List Loc) (ls : Array Slot), z.1 = 0 → va_P D vwCl [(h, .inr (3, [.ref q_h_rules, .ref q_h_codes, .ref q_h_volts, .ref q_h_grid, .int m_h_unknowns, .int m_h_size, .long m_h_divisor])), (q_h_rules, .inr (5, [.int m_h_rules_bits, .int m_h_rules_unit, .int m_h_rules_offset, .int m_h_rules_lean, .int m_h_rules_ref, .int m_h_rules_top, .ref q_h_rules_misses, .ref q_h_rules_resistors])), (q_h_codes, aI cy 12 m_h_codes), (q_h_volts, aI cy 12 m_h_volts), (q_h_grid, aJ cy 132 z.2.2)] H → va_D A [(h, .inr (3, [.ref q_h_rules, .ref q_h_codes, .ref q_h_volts, .ref q_h_grid, .int m_h_unknowns, .int m_h_size, .long m_h_divisor])), (q_h_rules, .inr (5, [.int m_h_rules_bits, .int m_h_rules_unit, .int m_h_rules_offset, .int m_h_rules_lean, .int m_h_rules_ref, .int m_h_rules_top, .ref q_h_rules_misses, .ref q_h_rules_resistors])), (q_h_codes, aI cy 12 m_h_codes), (q_h_volts, aI cy 12 m_h_volts), (q_h_grid, aJ cy 132 z.2.2)] → va_S A s.heap H locs → lv_has ls 4 [(0, .ref h), (1, .int v1), (2, .int v2), (3, .int z.2.1)] → W p l e ({ frames := 1, cells := 0, slots := 0, locals := 25 } : Room) s m args below meth c H locs 0 0 Q (F0 m 34 ls [])) (hE1 : ∀ (H : Heap) (locs : List Loc) (ls : Array Slot), z.1 = 1 → va_P D vwCl [(h, .inr (3, [.ref q_h_rules, .ref q_h_codes, .ref q_h_volts, .ref q_h_grid, .int m_h_unknowns, .int m_h_size, .long m_h_divisor])), (q_h_rules, .inr (5, [.int m_h_rules_bits, .int m_h_rules_unit, .int m_h_rules_offset, .int m_h_rules_lean, .int m_h_rules_ref, .int m_h_rules_top, .ref q_h_rules_misses, .ref q_h_rules_resistors])), (q_h_codes, aI cy 12 m_h_codes), (q_h_volts, aI cy 12 m_h_volts), (q_h_grid, aJ cy 132 z.2.2)] H → va_D A [(h, .inr (3, [.ref q_h_rules, .ref q_h_codes, .ref q_h_volts, .ref q_h_grid, .int m_h_unknowns, .int m_h_size, .long m_h_divisor])), (q_h_rules, .inr (5, [.int m_h_rules_bits, .int m_h_rules_unit, .int m_h_rules_offset, .int m_h_rules_lean, .int m_h_rules_ref, .int m_h_rules_top, .ref q_h_rules_misses, .ref q_h_rules_resistors])), (q_h_codes, aI cy 12 m_h_codes), (q_h_volts, aI cy 12 m_h_volts), (q_h_grid, aJ cy 132 z.2.2)] → va_S A s.heap H locs → lv_has ls 4 [(0, .ref h), (1, .int v1), (2, .int v2)] → W p l e ({ frames := 1, cells := 0, slots := 0, locals := 25 } : Room) s m args below meth c H locs 0 0 Q (F0 m 74 ls [])) : W p l e ({ frames := 1, cells := 0, slots := 0, locals := 25 } : Room) s m args below meth c H locs 0 0 Q (F0 m 65 ls [.long k0, .int k1, .int k2, .ref h]) := by
  obtain ⟨hx, hb, hr, hml, hown, hts, hlk, hK, hA, hN⟩ := id C
  unfold f_X3_fillGrid_J65_34 at hf
  obtain ⟨z65, hz65, hf⟩ := zb_of hf
  refine goV (wr := [(q_h_rules, .inr (5, [.int m_h_rules_bits, .int m_h_rules_unit, .int m_h_rules_offset, .int m_h_rules_lean, .int m_h_rules_ref, .int m_h_rules_top, .ref q_h_rules_misses, .ref q_h_rules_resistors])), (q_h_codes, aI cy 12 m_h_codes), (q_h_volts, aI cy 12 m_h_volts)]) (ws' := [(h, .inr (3, [.ref q_h_rules, .ref q_h_codes, .ref q_h_volts, .ref q_h_grid, .int m_h_unknowns, .int m_h_size, .long m_h_divisor])), (q_h_rules, .inr (5, [.int m_h_rules_bits, .int m_h_rules_unit, .int m_h_rules_offset, .int m_h_rules_lean, .int m_h_rules_ref, .int m_h_rules_top, .ref q_h_rules_misses, .ref q_h_rules_resistors])), (q_h_codes, aI cy 12 m_h_codes), (q_h_volts, aI cy 12 m_h_volts), (q_h_grid, aJ cy 132 z65)]) C (runV (n := 3) (As := [.int k2, .int k1, .long k0]) (rest := []) C (c_X3_putCell l D cy H.size h q_h_rules q_h_codes q_h_volts q_h_grid k2 k1 k0 m_h_unknowns m_h_size m_h_divisor m_h_grid hz65) ml_X3_70 im_X3_putCell se_X3_putCell ii_X3 cd_X3_putCell hd_X3_putCell rfl rfl ⟨Nat.le_of_ble_eq_true rfl, Nat.le_of_ble_eq_true rfl⟩ (hP.sub [0, 4] rfl) (hD.sub [0, 4] (by decide) rfl) hS rfl rfl rfl hl.1 rfl (Nat.le_of_ble_eq_true rfl) dX3_fillGrid_65) hP hD hS [0, 4] [1, 2, 3] [3, 0, 1, 2, 4] rfl rfl (by decide) (by decide) rfl (by decide) (fun H locs hP hD hS => ?_)
  obtain ⟨x68, ex68⟩ : ∃ y : Int32, y = v3 + (1 : Int32) := ⟨_, rfl⟩
  have hf := zl_of hf x68 ex68
  refine lv_iinc (v := x68) (lv' := [(3, .int x68), (0, .ref h), (1, .int v1), (2, .int v2)]) hx hb dX3_fillGrid_68 hl (k := 3) rfl (by rw [ex68]; rfl) (by decide) rfl (fun ls hl => ?_)
  refine lv_goto (tgt := 34) hx hb dX3_fillGrid_71 (by decide) ?_
  obtain rfl := Option.some.inj hf
  exact hE0 _ _ _ rfl hP hD hS (lv_sub hl [1, 2, 3, 0] rfl)
def f_X3_fillGrid_L34 (v1 : Int32) (v2 : Int32) (m_h_rules_bits : Int32) (m_h_rules_top : Int32) (m_h_codes : Nat → Int32) (w : Int32 × (Nat → Int64)) : Option (Nat × (Int32 × (Nat → Int64))) :=
  if v1 ≤ w.1 then
    some (1, (w.1, w.2))
  else
    zb (f_X3_codeAt v2 m_h_codes) fun z50 =>
    zb (f_X5_takesPart z50 w.1 m_h_rules_bits m_h_rules_top) fun z54 =>
    if z54 = 0 then
      f_X3_fillGrid_J65_34 w.1 (0 : Int64) ((1 : Int32) + w.1) v2 w.2
    else
      f_X3_fillGrid_J65_34 w.1 (1 : Int64) ((1 : Int32) + w.1) v2 w.2
set_option maxHeartbeats 4000000 in
set_option maxRecDepth 100000 in
theorem k_X3_fillGrid_L34 {h q_h_rules q_h_codes q_h_volts q_h_grid q_h_rules_misses q_h_rules_resistors : Nat} {v1 : Int32} {v2 : Int32} {m_h_unknowns : Int32} {m_h_size : Int32} {m_h_divisor : Int64} {m_h_rules_bits : Int32} {m_h_rules_unit : Int32} {m_h_rules_offset : Int32} {m_h_rules_lean : Int32} {m_h_rules_ref : Int32} {m_h_rules_top : Int32} {m_h_codes : Nat → Int32} {m_h_volts : Nat → Int32} {w : Int32 × (Nat → Int64)} {z : Nat × (Int32 × (Nat → Int64))} (C : cx p s m args meth c cX3_fillGrid 4 none RX3 D cy A) (hf : f_X3_fillGrid_L34 v1 v2 m_h_rules_bits m_h_rules_top m_h_codes w = some z) (hP : va_P D vwCl [(h, .inr (3, [.ref q_h_rules, .ref q_h_codes, .ref q_h_volts, .ref q_h_grid, .int m_h_unknowns, .int m_h_size, .long m_h_divisor])), (q_h_rules, .inr (5, [.int m_h_rules_bits, .int m_h_rules_unit, .int m_h_rules_offset, .int m_h_rules_lean, .int m_h_rules_ref, .int m_h_rules_top, .ref q_h_rules_misses, .ref q_h_rules_resistors])), (q_h_codes, aI cy 12 m_h_codes), (q_h_volts, aI cy 12 m_h_volts), (q_h_grid, aJ cy 132 w.2)] H) (hD : va_D A [(h, .inr (3, [.ref q_h_rules, .ref q_h_codes, .ref q_h_volts, .ref q_h_grid, .int m_h_unknowns, .int m_h_size, .long m_h_divisor])), (q_h_rules, .inr (5, [.int m_h_rules_bits, .int m_h_rules_unit, .int m_h_rules_offset, .int m_h_rules_lean, .int m_h_rules_ref, .int m_h_rules_top, .ref q_h_rules_misses, .ref q_h_rules_resistors])), (q_h_codes, aI cy 12 m_h_codes), (q_h_volts, aI cy 12 m_h_volts), (q_h_grid, aJ cy 132 w.2)]) (hS : va_S A s.heap H locs) (hl : lv_has ls 4 [(0, .ref h), (1, .int v1), (2, .int v2), (3, .int w.1)]) (hE0 : ∀ (H : Heap) (locs : List Loc) (ls : Array Slot), z.1 = 0 → va_P D vwCl [(h, .inr (3, [.ref q_h_rules, .ref q_h_codes, .ref q_h_volts, .ref q_h_grid, .int m_h_unknowns, .int m_h_size, .long m_h_divisor])), (q_h_rules, .inr (5, [.int m_h_rules_bits, .int m_h_rules_unit, .int m_h_rules_offset, .int m_h_rules_lean, .int m_h_rules_ref, .int m_h_rules_top, .ref q_h_rules_misses, .ref q_h_rules_resistors])), (q_h_codes, aI cy 12 m_h_codes), (q_h_volts, aI cy 12 m_h_volts), (q_h_grid, aJ cy 132 z.2.2)] H → va_D A [(h, .inr (3, [.ref q_h_rules, .ref q_h_codes, .ref q_h_volts, .ref q_h_grid, .int m_h_unknowns, .int m_h_size, .long m_h_divisor])), (q_h_rules, .inr (5, [.int m_h_rules_bits, .int m_h_rules_unit, .int m_h_rules_offset, .int m_h_rules_lean, .int m_h_rules_ref, .int m_h_rules_top, .ref q_h_rules_misses, .ref q_h_rules_resistors])), (q_h_codes, aI cy 12 m_h_codes), (q_h_volts, aI cy 12 m_h_volts), (q_h_grid, aJ cy 132 z.2.2)] → va_S A s.heap H locs → lv_has ls 4 [(0, .ref h), (1, .int v1), (2, .int v2), (3, .int z.2.1)] → W p l e ({ frames := 1, cells := 0, slots := 0, locals := 25 } : Room) s m args below meth c H locs 0 0 Q (F0 m 34 ls [])) (hE1 : ∀ (H : Heap) (locs : List Loc) (ls : Array Slot), z.1 = 1 → va_P D vwCl [(h, .inr (3, [.ref q_h_rules, .ref q_h_codes, .ref q_h_volts, .ref q_h_grid, .int m_h_unknowns, .int m_h_size, .long m_h_divisor])), (q_h_rules, .inr (5, [.int m_h_rules_bits, .int m_h_rules_unit, .int m_h_rules_offset, .int m_h_rules_lean, .int m_h_rules_ref, .int m_h_rules_top, .ref q_h_rules_misses, .ref q_h_rules_resistors])), (q_h_codes, aI cy 12 m_h_codes), (q_h_volts, aI cy 12 m_h_volts), (q_h_grid, aJ cy 132 z.2.2)] H → va_D A [(h, .inr (3, [.ref q_h_rules, .ref q_h_codes, .ref q_h_volts, .ref q_h_grid, .int m_h_unknowns, .int m_h_size, .long m_h_divisor])), (q_h_rules, .inr (5, [.int m_h_rules_bits, .int m_h_rules_unit, .int m_h_rules_offset, .int m_h_rules_lean, .int m_h_rules_ref, .int m_h_rules_top, .ref q_h_rules_misses, .ref q_h_rules_resistors])), (q_h_codes, aI cy 12 m_h_codes), (q_h_volts, aI cy 12 m_h_volts), (q_h_grid, aJ cy 132 z.2.2)] → va_S A s.heap H locs → lv_has ls 4 [(0, .ref h), (1, .int v1), (2, .int v2)] → W p l e ({ frames := 1, cells := 0, slots := 0, locals := 25 } : Room) s m args below meth c H locs 0 0 Q (F0 m 74 ls [])) : W p l e ({ frames := 1, cells := 0, slots := 0, locals := 25 } : Room) s m args below meth c H locs 0 0 Q (F0 m 34 ls []) := by
  obtain ⟨hx, hb, hr, hml, hown, hts, hlk, hK, hA, hN⟩ := id C
  unfold f_X3_fillGrid_L34 at hf
  refine lv_iload_n hx hb dX3_fillGrid_34 rfl (lv_at hl 3 rfl) ?_
  refine lv_iload_n hx hb dX3_fillGrid_35 rfl (lv_at hl 1 rfl) ?_
  refine lv_icmp_ge (tgt := 74) hx hb dX3_fillGrid_36 (by decide) (fun c36 => ?_) (fun c36 => ?_)
  · have hf := zt c36 hf
    obtain rfl := Option.some.inj hf
    exact hE1 _ _ _ rfl hP hD hS (lv_sub hl [0, 1, 2] rfl)
  · have hf := zf c36 hf
    refine lv_aload_n hx hb dX3_fillGrid_39 rfl (lv_at hl 0 rfl) ?_
    refine lv_iload_n hx hb dX3_fillGrid_40 rfl (lv_at hl 2 rfl) ?_
    refine lv_iconst (v := 1) hx hb dX3_fillGrid_41 (by decide) ?_
    refine lv_iload_n hx hb dX3_fillGrid_42 rfl (lv_at hl 3 rfl) ?_
    refine lv_iadd hx hb dX3_fillGrid_43 ?_
    refine lv_aload_n hx hb dX3_fillGrid_44 rfl (lv_at hl 0 rfl) ?_
    refine va_get (D := D) (ci := 3) (v := .ref q_h_rules) (C := RX3) (T := TX3) (N := 7) hx hb hts ui_X3 hown hK hP 0 rfl rfl 0 (by decide) (hts _ fl_X3_35) (fun _ h9 => h9) rfl dX3_fillGrid_45 ?_
    refine lv_aload_n hx hb dX3_fillGrid_48 rfl (lv_at hl 0 rfl) ?_
    refine lv_iload_n hx hb dX3_fillGrid_49 rfl (lv_at hl 2 rfl) ?_
    obtain ⟨z50, hz50, hf⟩ := zb_of hf
    refine goI (wr := [(q_h_rules, .inr (5, [.int m_h_rules_bits, .int m_h_rules_unit, .int m_h_rules_offset, .int m_h_rules_lean, .int m_h_rules_ref, .int m_h_rules_top, .ref q_h_rules_misses, .ref q_h_rules_resistors])), (q_h_volts, aI cy 12 m_h_volts), (q_h_grid, aJ cy 132 w.2)]) (ws' := [(h, .inr (3, [.ref q_h_rules, .ref q_h_codes, .ref q_h_volts, .ref q_h_grid, .int m_h_unknowns, .int m_h_size, .long m_h_divisor])), (q_h_rules, .inr (5, [.int m_h_rules_bits, .int m_h_rules_unit, .int m_h_rules_offset, .int m_h_rules_lean, .int m_h_rules_ref, .int m_h_rules_top, .ref q_h_rules_misses, .ref q_h_rules_resistors])), (q_h_codes, aI cy 12 m_h_codes), (q_h_volts, aI cy 12 m_h_volts), (q_h_grid, aJ cy 132 w.2)]) C (runV (n := 1) (As := [.int v2]) (rest := [.ref q_h_rules, .int ((1 : Int32) + w.1), .int v2, .ref h]) C (c_X3_codeAt l D cy H.size h q_h_rules q_h_codes q_h_volts q_h_grid v2 m_h_unknowns m_h_size m_h_divisor m_h_codes hz50) ml_X3_39 im_X3_codeAt se_X3_codeAt ii_X3 cd_X3_codeAt hd_X3_codeAt rfl rfl ⟨Nat.le_of_ble_eq_true rfl, Nat.le_of_ble_eq_true rfl⟩ (hP.sub [0, 2] rfl) (hD.sub [0, 2] (by decide) rfl) hS rfl rfl rfl hl.1 rfl (Nat.le_of_ble_eq_true rfl) dX3_fillGrid_50) hP hD hS [0, 2] [1, 3, 4] [3, 0, 4, 1, 2] rfl rfl (by decide) (by decide) rfl (by decide) (fun H locs hP hD hS => ?_)
    refine lv_iload_n hx hb dX3_fillGrid_53 rfl (lv_at hl 3 rfl) ?_
    obtain ⟨z54, hz54, hf⟩ := zb_of hf
    refine goZ (wr := [(h, .inr (3, [.ref q_h_rules, .ref q_h_codes, .ref q_h_volts, .ref q_h_grid, .int m_h_unknowns, .int m_h_size, .long m_h_divisor])), (q_h_codes, aI cy 12 m_h_codes), (q_h_volts, aI cy 12 m_h_volts), (q_h_grid, aJ cy 132 w.2)]) (ws' := [(h, .inr (3, [.ref q_h_rules, .ref q_h_codes, .ref q_h_volts, .ref q_h_grid, .int m_h_unknowns, .int m_h_size, .long m_h_divisor])), (q_h_rules, .inr (5, [.int m_h_rules_bits, .int m_h_rules_unit, .int m_h_rules_offset, .int m_h_rules_lean, .int m_h_rules_ref, .int m_h_rules_top, .ref q_h_rules_misses, .ref q_h_rules_resistors])), (q_h_codes, aI cy 12 m_h_codes), (q_h_volts, aI cy 12 m_h_volts), (q_h_grid, aJ cy 132 w.2)]) C (runV (n := 2) (As := [.int z50, .int w.1]) (rest := [.int ((1 : Int32) + w.1), .int v2, .ref h]) C (c_X5_takesPart l D cy H.size q_h_rules q_h_rules_misses q_h_rules_resistors z50 w.1 m_h_rules_bits m_h_rules_unit m_h_rules_offset m_h_rules_lean m_h_rules_ref m_h_rules_top hz54) ml_X3_74 im_X5_takesPart se_X5_takesPart ii_X5 cd_X5_takesPart hd_X5_takesPart rfl rfl ⟨Nat.le_of_ble_eq_true rfl, Nat.le_of_ble_eq_true rfl⟩ (hP.sub [1] rfl) (hD.sub [1] (by decide) rfl) hS rfl rfl rfl hl.1 rfl (Nat.le_of_ble_eq_true rfl) dX3_fillGrid_54) hP hD hS [1] [0, 2, 3, 4] [0, 4, 1, 2, 3] rfl rfl (by decide) (by decide) rfl (by decide) (fun H locs n54 hP hD hS => ?_)
    refine lv_if_eq (tgt := 64) hx hb dX3_fillGrid_57 (by decide) (fun c57 => ?_) (fun c57 => ?_)
    · have hf := zt c57 hf
      refine lv_lconst (v := 0) hx hb dX3_fillGrid_64 (by decide) ?_
      exact k_X3_fillGrid_J65_34 C hf hP hD hS (lv_sub hl [0, 1, 2, 3] rfl) hE0 hE1
    · have hf := zf c57 hf
      refine lv_lconst (v := 1) hx hb dX3_fillGrid_60 (by decide) ?_
      refine lv_goto (tgt := 65) hx hb dX3_fillGrid_61 (by decide) ?_
      exact k_X3_fillGrid_J65_34 C hf hP hD hS (lv_sub hl [0, 1, 2, 3] rfl) hE0 hE1
set_option maxHeartbeats 4000000 in
set_option maxRecDepth 100000 in
theorem kl_X3_fillGrid_L34 {h q_h_rules q_h_codes q_h_volts q_h_grid q_h_rules_misses q_h_rules_resistors : Nat} {v1 : Int32} {v2 : Int32} {m_h_unknowns : Int32} {m_h_size : Int32} {m_h_divisor : Int64} {m_h_rules_bits : Int32} {m_h_rules_unit : Int32} {m_h_rules_offset : Int32} {m_h_rules_lean : Int32} {m_h_rules_ref : Int32} {m_h_rules_top : Int32} {m_h_codes : Nat → Int32} {m_h_volts : Nat → Int32} (C : cx p s m args meth c cX3_fillGrid 4 none RX3 D cy A) : ∀ (n : Nat) (w : Int32 × (Nat → Int64)) (z : Nat × (Int32 × (Nat → Int64))) (H : Heap) (locs : List Loc) (ls : Array Slot), zp (f_X3_fillGrid_L34 v1 v2 m_h_rules_bits m_h_rules_top m_h_codes) n w = some z → va_P D vwCl [(h, .inr (3, [.ref q_h_rules, .ref q_h_codes, .ref q_h_volts, .ref q_h_grid, .int m_h_unknowns, .int m_h_size, .long m_h_divisor])), (q_h_rules, .inr (5, [.int m_h_rules_bits, .int m_h_rules_unit, .int m_h_rules_offset, .int m_h_rules_lean, .int m_h_rules_ref, .int m_h_rules_top, .ref q_h_rules_misses, .ref q_h_rules_resistors])), (q_h_codes, aI cy 12 m_h_codes), (q_h_volts, aI cy 12 m_h_volts), (q_h_grid, aJ cy 132 w.2)] H → va_D A [(h, .inr (3, [.ref q_h_rules, .ref q_h_codes, .ref q_h_volts, .ref q_h_grid, .int m_h_unknowns, .int m_h_size, .long m_h_divisor])), (q_h_rules, .inr (5, [.int m_h_rules_bits, .int m_h_rules_unit, .int m_h_rules_offset, .int m_h_rules_lean, .int m_h_rules_ref, .int m_h_rules_top, .ref q_h_rules_misses, .ref q_h_rules_resistors])), (q_h_codes, aI cy 12 m_h_codes), (q_h_volts, aI cy 12 m_h_volts), (q_h_grid, aJ cy 132 w.2)] → va_S A s.heap H locs → lv_has ls 4 [(0, .ref h), (1, .int v1), (2, .int v2), (3, .int w.1)] → (∀ (H : Heap) (locs : List Loc) (ls : Array Slot), z.1 = 1 → va_P D vwCl [(h, .inr (3, [.ref q_h_rules, .ref q_h_codes, .ref q_h_volts, .ref q_h_grid, .int m_h_unknowns, .int m_h_size, .long m_h_divisor])), (q_h_rules, .inr (5, [.int m_h_rules_bits, .int m_h_rules_unit, .int m_h_rules_offset, .int m_h_rules_lean, .int m_h_rules_ref, .int m_h_rules_top, .ref q_h_rules_misses, .ref q_h_rules_resistors])), (q_h_codes, aI cy 12 m_h_codes), (q_h_volts, aI cy 12 m_h_volts), (q_h_grid, aJ cy 132 z.2.2)] H → va_D A [(h, .inr (3, [.ref q_h_rules, .ref q_h_codes, .ref q_h_volts, .ref q_h_grid, .int m_h_unknowns, .int m_h_size, .long m_h_divisor])), (q_h_rules, .inr (5, [.int m_h_rules_bits, .int m_h_rules_unit, .int m_h_rules_offset, .int m_h_rules_lean, .int m_h_rules_ref, .int m_h_rules_top, .ref q_h_rules_misses, .ref q_h_rules_resistors])), (q_h_codes, aI cy 12 m_h_codes), (q_h_volts, aI cy 12 m_h_volts), (q_h_grid, aJ cy 132 z.2.2)] → va_S A s.heap H locs → lv_has ls 4 [(0, .ref h), (1, .int v1), (2, .int v2)] → W p l e ({ frames := 1, cells := 0, slots := 0, locals := 25 } : Room) s m args below meth c H locs 0 0 Q (F0 m 74 ls [])) → W p l e ({ frames := 1, cells := 0, slots := 0, locals := 25 } : Room) s m args below meth c H locs 0 0 Q (F0 m 34 ls []) := by
  intro n
  induction n with
  | zero => intro w z H locs ls hf; cases hf
  | succ n ih =>
    intro w z H locs ls hf hP hD hS hl hE1
    obtain ⟨w1, hw, hd⟩ := zp_s hf
    refine k_X3_fillGrid_L34 C hw hP hD hS hl (fun H locs ls h0 hP hD hS hl => ?_) (fun H locs ls h0 hP hD hS hl => ?_)
    · rcases hd with ⟨_, h⟩ | ⟨h, _⟩
      · exact ih _ _ _ _ _ h hP hD hS hl hE1
      · exact absurd h0 h
    · rcases hd with ⟨h, _⟩ | ⟨_, h⟩
      · exact absurd (h.symm.trans h0) (by decide)
      · subst h; exact hE1 _ _ _ h0 hP hD hS hl
def f_X3_fillGrid_L17 (v1 : Int32) (m_h_unknowns : Int32) (m_h_size : Int32) (m_h_rules_bits : Int32) (m_h_rules_top : Int32) (m_h_codes : Nat → Int32) (m_h_volts : Nat → Int32) (w : Int32 × (Nat → Int64)) : Option (Nat × (Int32 × (Nat → Int64))) :=
  if m_h_size ≤ w.1 then
    some (1, (w.1, w.2))
  else
    zb (f_X3_putCell w.1 (0 : Int32) (1 : Int64) w.2) fun z29 =>
    zb (zp (f_X3_fillGrid_L34 v1 w.1 m_h_rules_bits m_h_rules_top m_h_codes) zF ((0 : Int32), z29)) fun z34 =>
    zb (f_X3_voltAt w.1 m_h_volts) fun z82 =>
    zb (f_X3_putCell w.1 m_h_unknowns (z82.toInt64) z34.2.2) fun z86 =>
    zl (w.1 + (1 : Int32)) fun x89 =>
    some (0, (x89, z86))
set_option maxHeartbeats 4000000 in
set_option maxRecDepth 100000 in
theorem k_X3_fillGrid_L17 {h q_h_rules q_h_codes q_h_volts q_h_grid q_h_rules_misses q_h_rules_resistors : Nat} {v1 : Int32} {m_h_unknowns : Int32} {m_h_size : Int32} {m_h_divisor : Int64} {m_h_rules_bits : Int32} {m_h_rules_unit : Int32} {m_h_rules_offset : Int32} {m_h_rules_lean : Int32} {m_h_rules_ref : Int32} {m_h_rules_top : Int32} {m_h_codes : Nat → Int32} {m_h_volts : Nat → Int32} {w : Int32 × (Nat → Int64)} {z : Nat × (Int32 × (Nat → Int64))} (C : cx p s m args meth c cX3_fillGrid 4 none RX3 D cy A) (hf : f_X3_fillGrid_L17 v1 m_h_unknowns m_h_size m_h_rules_bits m_h_rules_top m_h_codes m_h_volts w = some z) (hP : va_P D vwCl [(h, .inr (3, [.ref q_h_rules, .ref q_h_codes, .ref q_h_volts, .ref q_h_grid, .int m_h_unknowns, .int m_h_size, .long m_h_divisor])), (q_h_rules, .inr (5, [.int m_h_rules_bits, .int m_h_rules_unit, .int m_h_rules_offset, .int m_h_rules_lean, .int m_h_rules_ref, .int m_h_rules_top, .ref q_h_rules_misses, .ref q_h_rules_resistors])), (q_h_codes, aI cy 12 m_h_codes), (q_h_volts, aI cy 12 m_h_volts), (q_h_grid, aJ cy 132 w.2)] H) (hD : va_D A [(h, .inr (3, [.ref q_h_rules, .ref q_h_codes, .ref q_h_volts, .ref q_h_grid, .int m_h_unknowns, .int m_h_size, .long m_h_divisor])), (q_h_rules, .inr (5, [.int m_h_rules_bits, .int m_h_rules_unit, .int m_h_rules_offset, .int m_h_rules_lean, .int m_h_rules_ref, .int m_h_rules_top, .ref q_h_rules_misses, .ref q_h_rules_resistors])), (q_h_codes, aI cy 12 m_h_codes), (q_h_volts, aI cy 12 m_h_volts), (q_h_grid, aJ cy 132 w.2)]) (hS : va_S A s.heap H locs) (hl : lv_has ls 4 [(0, .ref h), (1, .int v1), (2, .int w.1)]) (hE0 : ∀ (H : Heap) (locs : List Loc) (ls : Array Slot), z.1 = 0 → va_P D vwCl [(h, .inr (3, [.ref q_h_rules, .ref q_h_codes, .ref q_h_volts, .ref q_h_grid, .int m_h_unknowns, .int m_h_size, .long m_h_divisor])), (q_h_rules, .inr (5, [.int m_h_rules_bits, .int m_h_rules_unit, .int m_h_rules_offset, .int m_h_rules_lean, .int m_h_rules_ref, .int m_h_rules_top, .ref q_h_rules_misses, .ref q_h_rules_resistors])), (q_h_codes, aI cy 12 m_h_codes), (q_h_volts, aI cy 12 m_h_volts), (q_h_grid, aJ cy 132 z.2.2)] H → va_D A [(h, .inr (3, [.ref q_h_rules, .ref q_h_codes, .ref q_h_volts, .ref q_h_grid, .int m_h_unknowns, .int m_h_size, .long m_h_divisor])), (q_h_rules, .inr (5, [.int m_h_rules_bits, .int m_h_rules_unit, .int m_h_rules_offset, .int m_h_rules_lean, .int m_h_rules_ref, .int m_h_rules_top, .ref q_h_rules_misses, .ref q_h_rules_resistors])), (q_h_codes, aI cy 12 m_h_codes), (q_h_volts, aI cy 12 m_h_volts), (q_h_grid, aJ cy 132 z.2.2)] → va_S A s.heap H locs → lv_has ls 4 [(0, .ref h), (1, .int v1), (2, .int z.2.1)] → W p l e ({ frames := 1, cells := 0, slots := 0, locals := 25 } : Room) s m args below meth c H locs 0 0 Q (F0 m 17 ls [])) (hE1 : ∀ (H : Heap) (locs : List Loc) (ls : Array Slot), z.1 = 1 → va_P D vwCl [(h, .inr (3, [.ref q_h_rules, .ref q_h_codes, .ref q_h_volts, .ref q_h_grid, .int m_h_unknowns, .int m_h_size, .long m_h_divisor])), (q_h_rules, .inr (5, [.int m_h_rules_bits, .int m_h_rules_unit, .int m_h_rules_offset, .int m_h_rules_lean, .int m_h_rules_ref, .int m_h_rules_top, .ref q_h_rules_misses, .ref q_h_rules_resistors])), (q_h_codes, aI cy 12 m_h_codes), (q_h_volts, aI cy 12 m_h_volts), (q_h_grid, aJ cy 132 z.2.2)] H → va_D A [(h, .inr (3, [.ref q_h_rules, .ref q_h_codes, .ref q_h_volts, .ref q_h_grid, .int m_h_unknowns, .int m_h_size, .long m_h_divisor])), (q_h_rules, .inr (5, [.int m_h_rules_bits, .int m_h_rules_unit, .int m_h_rules_offset, .int m_h_rules_lean, .int m_h_rules_ref, .int m_h_rules_top, .ref q_h_rules_misses, .ref q_h_rules_resistors])), (q_h_codes, aI cy 12 m_h_codes), (q_h_volts, aI cy 12 m_h_volts), (q_h_grid, aJ cy 132 z.2.2)] → va_S A s.heap H locs → lv_has ls 4 [] → W p l e ({ frames := 1, cells := 0, slots := 0, locals := 25 } : Room) s m args below meth c H locs 0 0 Q (F0 m 95 ls [])) : W p l e ({ frames := 1, cells := 0, slots := 0, locals := 25 } : Room) s m args below meth c H locs 0 0 Q (F0 m 17 ls []) := by
  obtain ⟨hx, hb, hr, hml, hown, hts, hlk, hK, hA, hN⟩ := id C
  unfold f_X3_fillGrid_L17 at hf
  refine lv_iload_n hx hb dX3_fillGrid_17 rfl (lv_at hl 2 rfl) ?_
  refine lv_aload_n hx hb dX3_fillGrid_18 rfl (lv_at hl 0 rfl) ?_
  refine va_get (D := D) (ci := 3) (v := .int m_h_size) (C := RX3) (T := TX3) (N := 7) hx hb hts ui_X3 hown hK hP 0 rfl rfl 5 (by decide) (hts _ fl_X3_28) (fun _ h9 => h9) rfl dX3_fillGrid_19 ?_
  refine lv_icmp_ge (tgt := 95) hx hb dX3_fillGrid_22 (by decide) (fun c22 => ?_) (fun c22 => ?_)
  · have hf := zt c22 hf
    obtain rfl := Option.some.inj hf
    exact hE1 _ _ _ rfl hP hD hS (lv_sub hl [] rfl)
  · have hf := zf c22 hf
    refine lv_aload_n hx hb dX3_fillGrid_25 rfl (lv_at hl 0 rfl) ?_
    refine lv_iload_n hx hb dX3_fillGrid_26 rfl (lv_at hl 2 rfl) ?_
    refine lv_iconst (v := 0) hx hb dX3_fillGrid_27 (by decide) ?_
    refine lv_lconst (v := 1) hx hb dX3_fillGrid_28 (by decide) ?_
    obtain ⟨z29, hz29, hf⟩ := zb_of hf
    refine goV (wr := [(q_h_rules, .inr (5, [.int m_h_rules_bits, .int m_h_rules_unit, .int m_h_rules_offset, .int m_h_rules_lean, .int m_h_rules_ref, .int m_h_rules_top, .ref q_h_rules_misses, .ref q_h_rules_resistors])), (q_h_codes, aI cy 12 m_h_codes), (q_h_volts, aI cy 12 m_h_volts)]) (ws' := [(h, .inr (3, [.ref q_h_rules, .ref q_h_codes, .ref q_h_volts, .ref q_h_grid, .int m_h_unknowns, .int m_h_size, .long m_h_divisor])), (q_h_rules, .inr (5, [.int m_h_rules_bits, .int m_h_rules_unit, .int m_h_rules_offset, .int m_h_rules_lean, .int m_h_rules_ref, .int m_h_rules_top, .ref q_h_rules_misses, .ref q_h_rules_resistors])), (q_h_codes, aI cy 12 m_h_codes), (q_h_volts, aI cy 12 m_h_volts), (q_h_grid, aJ cy 132 z29)]) C (runV (n := 3) (As := [.int w.1, .int (0 : Int32), .long (1 : Int64)]) (rest := []) C (c_X3_putCell l D cy H.size h q_h_rules q_h_codes q_h_volts q_h_grid w.1 (0 : Int32) (1 : Int64) m_h_unknowns m_h_size m_h_divisor w.2 hz29) ml_X3_70 im_X3_putCell se_X3_putCell ii_X3 cd_X3_putCell hd_X3_putCell rfl rfl ⟨Nat.le_of_ble_eq_true rfl, Nat.le_of_ble_eq_true rfl⟩ (hP.sub [0, 4] rfl) (hD.sub [0, 4] (by decide) rfl) hS rfl rfl rfl hl.1 rfl (Nat.le_of_ble_eq_true rfl) dX3_fillGrid_29) hP hD hS [0, 4] [1, 2, 3] [3, 0, 1, 2, 4] rfl rfl (by decide) (by decide) rfl (by decide) (fun H locs hP hD hS => ?_)
    refine lv_iconst (v := 0) hx hb dX3_fillGrid_32 (by decide) ?_
    refine lv_istore_n (lv' := [(3, .int (0 : Int32)), (0, .ref h), (1, .int v1), (2, .int w.1)]) hx hb dX3_fillGrid_33 rfl hl (by decide) rfl (fun ls hl => ?_)
    obtain ⟨z34, hz34, hf⟩ := zb_of hf
    refine kl_X3_fillGrid_L34 C _ _ _ _ _ _ hz34 hP hD hS (lv_sub hl [1, 2, 3, 0] rfl) (fun H locs ls h0 hP hD hS hl => ?_)
    refine lv_aload_n hx hb dX3_fillGrid_74 rfl (lv_at hl 0 rfl) ?_
    refine lv_iload_n hx hb dX3_fillGrid_75 rfl (lv_at hl 2 rfl) ?_
    refine lv_aload_n hx hb dX3_fillGrid_76 rfl (lv_at hl 0 rfl) ?_
    refine va_get (D := D) (ci := 3) (v := .int m_h_unknowns) (C := RX3) (T := TX3) (N := 7) hx hb hts ui_X3 hown hK hP 0 rfl rfl 4 (by decide) (hts _ fl_X3_24) (fun _ h9 => h9) rfl dX3_fillGrid_77 ?_
    refine lv_aload_n hx hb dX3_fillGrid_80 rfl (lv_at hl 0 rfl) ?_
    refine lv_iload_n hx hb dX3_fillGrid_81 rfl (lv_at hl 2 rfl) ?_
    obtain ⟨z82, hz82, hf⟩ := zb_of hf
    refine goI (wr := [(q_h_rules, .inr (5, [.int m_h_rules_bits, .int m_h_rules_unit, .int m_h_rules_offset, .int m_h_rules_lean, .int m_h_rules_ref, .int m_h_rules_top, .ref q_h_rules_misses, .ref q_h_rules_resistors])), (q_h_codes, aI cy 12 m_h_codes), (q_h_grid, aJ cy 132 z34.2.2)]) (ws' := [(h, .inr (3, [.ref q_h_rules, .ref q_h_codes, .ref q_h_volts, .ref q_h_grid, .int m_h_unknowns, .int m_h_size, .long m_h_divisor])), (q_h_rules, .inr (5, [.int m_h_rules_bits, .int m_h_rules_unit, .int m_h_rules_offset, .int m_h_rules_lean, .int m_h_rules_ref, .int m_h_rules_top, .ref q_h_rules_misses, .ref q_h_rules_resistors])), (q_h_codes, aI cy 12 m_h_codes), (q_h_volts, aI cy 12 m_h_volts), (q_h_grid, aJ cy 132 z34.2.2)]) C (runV (n := 1) (As := [.int w.1]) (rest := [.int m_h_unknowns, .int w.1, .ref h]) C (c_X3_voltAt l D cy H.size h q_h_rules q_h_codes q_h_volts q_h_grid w.1 m_h_unknowns m_h_size m_h_divisor m_h_volts hz82) ml_X3_78 im_X3_voltAt se_X3_voltAt ii_X3 cd_X3_voltAt hd_X3_voltAt rfl rfl ⟨Nat.le_of_ble_eq_true rfl, Nat.le_of_ble_eq_true rfl⟩ (hP.sub [0, 3] rfl) (hD.sub [0, 3] (by decide) rfl) hS rfl rfl rfl hl.1 rfl (Nat.le_of_ble_eq_true rfl) dX3_fillGrid_82) hP hD hS [0, 3] [1, 2, 4] [3, 0, 1, 4, 2] rfl rfl (by decide) (by decide) rfl (by decide) (fun H locs hP hD hS => ?_)
    refine lv_i2l hx hb dX3_fillGrid_85 rfl ?_
    obtain ⟨z86, hz86, hf⟩ := zb_of hf
    refine goV (wr := [(q_h_rules, .inr (5, [.int m_h_rules_bits, .int m_h_rules_unit, .int m_h_rules_offset, .int m_h_rules_lean, .int m_h_rules_ref, .int m_h_rules_top, .ref q_h_rules_misses, .ref q_h_rules_resistors])), (q_h_codes, aI cy 12 m_h_codes), (q_h_volts, aI cy 12 m_h_volts)]) (ws' := [(h, .inr (3, [.ref q_h_rules, .ref q_h_codes, .ref q_h_volts, .ref q_h_grid, .int m_h_unknowns, .int m_h_size, .long m_h_divisor])), (q_h_rules, .inr (5, [.int m_h_rules_bits, .int m_h_rules_unit, .int m_h_rules_offset, .int m_h_rules_lean, .int m_h_rules_ref, .int m_h_rules_top, .ref q_h_rules_misses, .ref q_h_rules_resistors])), (q_h_codes, aI cy 12 m_h_codes), (q_h_volts, aI cy 12 m_h_volts), (q_h_grid, aJ cy 132 z86)]) C (runV (n := 3) (As := [.int w.1, .int m_h_unknowns, .long (z82.toInt64)]) (rest := []) C (c_X3_putCell l D cy H.size h q_h_rules q_h_codes q_h_volts q_h_grid w.1 m_h_unknowns (z82.toInt64) m_h_unknowns m_h_size m_h_divisor z34.2.2 hz86) ml_X3_70 im_X3_putCell se_X3_putCell ii_X3 cd_X3_putCell hd_X3_putCell rfl rfl ⟨Nat.le_of_ble_eq_true rfl, Nat.le_of_ble_eq_true rfl⟩ (hP.sub [0, 4] rfl) (hD.sub [0, 4] (by decide) rfl) hS rfl rfl rfl hl.1 rfl (Nat.le_of_ble_eq_true rfl) dX3_fillGrid_86) hP hD hS [0, 4] [1, 2, 3] [3, 0, 1, 2, 4] rfl rfl (by decide) (by decide) rfl (by decide) (fun H locs hP hD hS => ?_)
    obtain ⟨x89, ex89⟩ : ∃ y : Int32, y = w.1 + (1 : Int32) := ⟨_, rfl⟩
    have hf := zl_of hf x89 ex89
    refine lv_iinc (v := x89) (lv' := [(2, .int x89), (0, .ref h), (1, .int v1)]) hx hb dX3_fillGrid_89 hl (k := 2) rfl (by rw [ex89]; rfl) (by decide) rfl (fun ls hl => ?_)
    refine lv_goto (tgt := 17) hx hb dX3_fillGrid_92 (by decide) ?_
    obtain rfl := Option.some.inj hf
    exact hE0 _ _ _ rfl hP hD hS (lv_sub hl [1, 2, 0] rfl)
set_option maxHeartbeats 4000000 in
set_option maxRecDepth 100000 in
theorem kl_X3_fillGrid_L17 {h q_h_rules q_h_codes q_h_volts q_h_grid q_h_rules_misses q_h_rules_resistors : Nat} {v1 : Int32} {m_h_unknowns : Int32} {m_h_size : Int32} {m_h_divisor : Int64} {m_h_rules_bits : Int32} {m_h_rules_unit : Int32} {m_h_rules_offset : Int32} {m_h_rules_lean : Int32} {m_h_rules_ref : Int32} {m_h_rules_top : Int32} {m_h_codes : Nat → Int32} {m_h_volts : Nat → Int32} (C : cx p s m args meth c cX3_fillGrid 4 none RX3 D cy A) : ∀ (n : Nat) (w : Int32 × (Nat → Int64)) (z : Nat × (Int32 × (Nat → Int64))) (H : Heap) (locs : List Loc) (ls : Array Slot), zp (f_X3_fillGrid_L17 v1 m_h_unknowns m_h_size m_h_rules_bits m_h_rules_top m_h_codes m_h_volts) n w = some z → va_P D vwCl [(h, .inr (3, [.ref q_h_rules, .ref q_h_codes, .ref q_h_volts, .ref q_h_grid, .int m_h_unknowns, .int m_h_size, .long m_h_divisor])), (q_h_rules, .inr (5, [.int m_h_rules_bits, .int m_h_rules_unit, .int m_h_rules_offset, .int m_h_rules_lean, .int m_h_rules_ref, .int m_h_rules_top, .ref q_h_rules_misses, .ref q_h_rules_resistors])), (q_h_codes, aI cy 12 m_h_codes), (q_h_volts, aI cy 12 m_h_volts), (q_h_grid, aJ cy 132 w.2)] H → va_D A [(h, .inr (3, [.ref q_h_rules, .ref q_h_codes, .ref q_h_volts, .ref q_h_grid, .int m_h_unknowns, .int m_h_size, .long m_h_divisor])), (q_h_rules, .inr (5, [.int m_h_rules_bits, .int m_h_rules_unit, .int m_h_rules_offset, .int m_h_rules_lean, .int m_h_rules_ref, .int m_h_rules_top, .ref q_h_rules_misses, .ref q_h_rules_resistors])), (q_h_codes, aI cy 12 m_h_codes), (q_h_volts, aI cy 12 m_h_volts), (q_h_grid, aJ cy 132 w.2)] → va_S A s.heap H locs → lv_has ls 4 [(0, .ref h), (1, .int v1), (2, .int w.1)] → (∀ (H : Heap) (locs : List Loc) (ls : Array Slot), z.1 = 1 → va_P D vwCl [(h, .inr (3, [.ref q_h_rules, .ref q_h_codes, .ref q_h_volts, .ref q_h_grid, .int m_h_unknowns, .int m_h_size, .long m_h_divisor])), (q_h_rules, .inr (5, [.int m_h_rules_bits, .int m_h_rules_unit, .int m_h_rules_offset, .int m_h_rules_lean, .int m_h_rules_ref, .int m_h_rules_top, .ref q_h_rules_misses, .ref q_h_rules_resistors])), (q_h_codes, aI cy 12 m_h_codes), (q_h_volts, aI cy 12 m_h_volts), (q_h_grid, aJ cy 132 z.2.2)] H → va_D A [(h, .inr (3, [.ref q_h_rules, .ref q_h_codes, .ref q_h_volts, .ref q_h_grid, .int m_h_unknowns, .int m_h_size, .long m_h_divisor])), (q_h_rules, .inr (5, [.int m_h_rules_bits, .int m_h_rules_unit, .int m_h_rules_offset, .int m_h_rules_lean, .int m_h_rules_ref, .int m_h_rules_top, .ref q_h_rules_misses, .ref q_h_rules_resistors])), (q_h_codes, aI cy 12 m_h_codes), (q_h_volts, aI cy 12 m_h_volts), (q_h_grid, aJ cy 132 z.2.2)] → va_S A s.heap H locs → lv_has ls 4 [] → W p l e ({ frames := 1, cells := 0, slots := 0, locals := 25 } : Room) s m args below meth c H locs 0 0 Q (F0 m 95 ls [])) → W p l e ({ frames := 1, cells := 0, slots := 0, locals := 25 } : Room) s m args below meth c H locs 0 0 Q (F0 m 17 ls []) := by
  intro n
  induction n with
  | zero => intro w z H locs ls hf; cases hf
  | succ n ih =>
    intro w z H locs ls hf hP hD hS hl hE1
    obtain ⟨w1, hw, hd⟩ := zp_s hf
    refine k_X3_fillGrid_L17 C hw hP hD hS hl (fun H locs ls h0 hP hD hS hl => ?_) (fun H locs ls h0 hP hD hS hl => ?_)
    · rcases hd with ⟨_, h⟩ | ⟨h, _⟩
      · exact ih _ _ _ _ _ h hP hD hS hl hE1
      · exact absurd h0 h
    · rcases hd with ⟨h, _⟩ | ⟨_, h⟩
      · exact absurd (h.symm.trans h0) (by decide)
      · subst h; exact hE1 _ _ _ h0 hP hD hS hl
def f_X3_fillGrid (m_h_size : Int32) (m_h_rules_bits : Int32) (m_h_rules_top : Int32) (m_h_codes : Nat → Int32) (m_h_volts : Nat → Int32) (m_h_grid : Nat → Int64) : Option (Int32 × (Nat → Int64)) :=
  zb (f_X5_parts m_h_rules_bits m_h_rules_top) fun z4 =>
  zl ((1 : Int32) + z4) fun x12 =>
  zb (zp (f_X3_fillGrid_L17 z4 x12 m_h_size m_h_rules_bits m_h_rules_top m_h_codes m_h_volts) zF ((0 : Int32), m_h_grid)) fun z17 =>
  some (x12, z17.2.2)
set_option maxHeartbeats 4000000 in
set_option maxRecDepth 100000 in
theorem k_X3_fillGrid {h q_h_rules q_h_codes q_h_volts q_h_grid q_h_rules_misses q_h_rules_resistors : Nat} {m_h_unknowns : Int32} {m_h_size : Int32} {m_h_divisor : Int64} {m_h_rules_bits : Int32} {m_h_rules_unit : Int32} {m_h_rules_offset : Int32} {m_h_rules_lean : Int32} {m_h_rules_ref : Int32} {m_h_rules_top : Int32} {m_h_codes : Nat → Int32} {m_h_volts : Nat → Int32} {m_h_grid : Nat → Int64} {z : Int32 × (Nat → Int64)} (C : cx p s m args meth c cX3_fillGrid 4 none RX3 D cy A) (hf : f_X3_fillGrid m_h_size m_h_rules_bits m_h_rules_top m_h_codes m_h_volts m_h_grid = some z) (hP : va_P D vwCl [(h, .inr (3, [.ref q_h_rules, .ref q_h_codes, .ref q_h_volts, .ref q_h_grid, .int m_h_unknowns, .int m_h_size, .long m_h_divisor])), (q_h_rules, .inr (5, [.int m_h_rules_bits, .int m_h_rules_unit, .int m_h_rules_offset, .int m_h_rules_lean, .int m_h_rules_ref, .int m_h_rules_top, .ref q_h_rules_misses, .ref q_h_rules_resistors])), (q_h_codes, aI cy 12 m_h_codes), (q_h_volts, aI cy 12 m_h_volts), (q_h_grid, aJ cy 132 m_h_grid)] H) (hD : va_D A [(h, .inr (3, [.ref q_h_rules, .ref q_h_codes, .ref q_h_volts, .ref q_h_grid, .int m_h_unknowns, .int m_h_size, .long m_h_divisor])), (q_h_rules, .inr (5, [.int m_h_rules_bits, .int m_h_rules_unit, .int m_h_rules_offset, .int m_h_rules_lean, .int m_h_rules_ref, .int m_h_rules_top, .ref q_h_rules_misses, .ref q_h_rules_resistors])), (q_h_codes, aI cy 12 m_h_codes), (q_h_volts, aI cy 12 m_h_volts), (q_h_grid, aJ cy 132 m_h_grid)]) (hS : va_S A s.heap H locs) (hl : lv_has ls 4 [(0, .ref h)]) : W p l e ({ frames := 1, cells := 0, slots := 0, locals := 25 } : Room) s m args below meth c H locs 0 0 (MQ below (kqv D cy [(h, .inr (3, [.ref q_h_rules, .ref q_h_codes, .ref q_h_volts, .ref q_h_grid, .int z.1, .int m_h_size, .long m_h_divisor])), (q_h_rules, .inr (5, [.int m_h_rules_bits, .int m_h_rules_unit, .int m_h_rules_offset, .int m_h_rules_lean, .int m_h_rules_ref, .int m_h_rules_top, .ref q_h_rules_misses, .ref q_h_rules_resistors])), (q_h_codes, aI cy 12 m_h_codes), (q_h_volts, aI cy 12 m_h_volts), (q_h_grid, aJ cy 132 z.2)] A) args s 0 0 A) (F0 m 0 ls []) := by
  obtain ⟨hx, hb, hr, hml, hown, hts, hlk, hK, hA, hN⟩ := id C
  unfold f_X3_fillGrid at hf
  refine lv_aload_n hx hb dX3_fillGrid_0 rfl (lv_at hl 0 rfl) ?_
  refine va_get (D := D) (ci := 3) (v := .ref q_h_rules) (C := RX3) (T := TX3) (N := 7) hx hb hts ui_X3 hown hK hP 0 rfl rfl 0 (by decide) (hts _ fl_X3_35) (fun _ h9 => h9) rfl dX3_fillGrid_1 ?_
  obtain ⟨z4, hz4, hf⟩ := zb_of hf
  refine goI (wr := [(h, .inr (3, [.ref q_h_rules, .ref q_h_codes, .ref q_h_volts, .ref q_h_grid, .int m_h_unknowns, .int m_h_size, .long m_h_divisor])), (q_h_codes, aI cy 12 m_h_codes), (q_h_volts, aI cy 12 m_h_volts), (q_h_grid, aJ cy 132 m_h_grid)]) (ws' := [(h, .inr (3, [.ref q_h_rules, .ref q_h_codes, .ref q_h_volts, .ref q_h_grid, .int m_h_unknowns, .int m_h_size, .long m_h_divisor])), (q_h_rules, .inr (5, [.int m_h_rules_bits, .int m_h_rules_unit, .int m_h_rules_offset, .int m_h_rules_lean, .int m_h_rules_ref, .int m_h_rules_top, .ref q_h_rules_misses, .ref q_h_rules_resistors])), (q_h_codes, aI cy 12 m_h_codes), (q_h_volts, aI cy 12 m_h_volts), (q_h_grid, aJ cy 132 m_h_grid)]) C (runV (n := 0) (As := []) (rest := []) C (c_X5_parts l D cy H.size q_h_rules q_h_rules_misses q_h_rules_resistors m_h_rules_bits m_h_rules_unit m_h_rules_offset m_h_rules_lean m_h_rules_ref m_h_rules_top hz4) ml_X3_66 im_X5_parts se_X5_parts ii_X5 cd_X5_parts hd_X5_parts rfl rfl ⟨Nat.le_of_ble_eq_true rfl, Nat.le_of_ble_eq_true rfl⟩ (hP.sub [1] rfl) (hD.sub [1] (by decide) rfl) hS rfl rfl rfl hl.1 rfl (Nat.le_of_ble_eq_true rfl) dX3_fillGrid_4) hP hD hS [1] [0, 2, 3, 4] [0, 4, 1, 2, 3] rfl rfl (by decide) (by decide) rfl (by decide) (fun H locs hP hD hS => ?_)
  refine lv_istore_n (lv' := [(1, .int z4), (0, .ref h)]) hx hb dX3_fillGrid_7 rfl hl (by decide) rfl (fun ls hl => ?_)
  refine lv_aload_n hx hb dX3_fillGrid_8 rfl (lv_at hl 1 rfl) ?_
  refine lv_iconst (v := 1) hx hb dX3_fillGrid_9 (by decide) ?_
  refine lv_iload_n hx hb dX3_fillGrid_10 rfl (lv_at hl 0 rfl) ?_
  refine lv_iadd hx hb dX3_fillGrid_11 ?_
  refine lv_topi (fun x12 ex12 => ?_)
  have hf := zl_of hf x12 ex12
  refine va_put (D := D) (ci := 3) (v := .int x12) (ty := .int) (C := RX3) (T := TX3) (N := 7) hx hb hts ui_X3 tyX3 tyX3_ok nmX3 hown hK hP hD hS 0 rfl rfl 4 (by decide) (hts _ fl_X3_24) (fun _ h9 => h9) rfl rfl rfl rfl (Nat.le_of_ble_eq_true rfl) dX3_fillGrid_12 (fun H locs hP hD hS => ?_)
  have hP : va_P D vwCl [(h, .inr (3, [.ref q_h_rules, .ref q_h_codes, .ref q_h_volts, .ref q_h_grid, .int x12, .int m_h_size, .long m_h_divisor])), (q_h_rules, .inr (5, [.int m_h_rules_bits, .int m_h_rules_unit, .int m_h_rules_offset, .int m_h_rules_lean, .int m_h_rules_ref, .int m_h_rules_top, .ref q_h_rules_misses, .ref q_h_rules_resistors])), (q_h_codes, aI cy 12 m_h_codes), (q_h_volts, aI cy 12 m_h_volts), (q_h_grid, aJ cy 132 m_h_grid)] H := hP
  have hD : va_D A [(h, .inr (3, [.ref q_h_rules, .ref q_h_codes, .ref q_h_volts, .ref q_h_grid, .int x12, .int m_h_size, .long m_h_divisor])), (q_h_rules, .inr (5, [.int m_h_rules_bits, .int m_h_rules_unit, .int m_h_rules_offset, .int m_h_rules_lean, .int m_h_rules_ref, .int m_h_rules_top, .ref q_h_rules_misses, .ref q_h_rules_resistors])), (q_h_codes, aI cy 12 m_h_codes), (q_h_volts, aI cy 12 m_h_volts), (q_h_grid, aJ cy 132 m_h_grid)] := hD
  refine lv_iconst (v := 0) hx hb dX3_fillGrid_15 (by decide) ?_
  refine lv_istore_n (lv' := [(2, .int (0 : Int32)), (1, .int z4), (0, .ref h)]) hx hb dX3_fillGrid_16 rfl hl (by decide) rfl (fun ls hl => ?_)
  obtain ⟨z17, hz17, hf⟩ := zb_of hf
  refine kl_X3_fillGrid_L17 C _ _ _ _ _ _ hz17 hP hD hS (lv_sub hl [2, 1, 0] rfl) (fun H locs ls h0 hP hD hS hl => ?_)
  obtain rfl := Option.some.inj hf
  exact ret_v C hP hD hS dX3_fillGrid_95
set_option maxRecDepth 100000 in
theorem c_X3_fillGrid (l : Launch) (D : va_G) (cy : Nat → ClassId) (sz : Nat) (h q_h_rules q_h_codes q_h_volts q_h_grid q_h_rules_misses q_h_rules_resistors : Nat) (m_h_unknowns : Int32) (m_h_size : Int32) (m_h_divisor : Int64) (m_h_rules_bits : Int32) (m_h_rules_unit : Int32) (m_h_rules_offset : Int32) (m_h_rules_lean : Int32) (m_h_rules_ref : Int32) (m_h_rules_top : Int32) (m_h_codes : Nat → Int32) (m_h_volts : Nat → Int32) (m_h_grid : Nat → Int64) {z : Int32 × (Nat → Int64)} (hf : f_X3_fillGrid m_h_size m_h_rules_bits m_h_rules_top m_h_codes m_h_volts m_h_grid = some z) : Met l yX3_fillGrid (.code yX3_fillGrid cX3_fillGrid 4 none :: tb) ({ frames := 1, cells := 0, slots := 0, locals := 25 } : Room) (kp D cy sz [.ref h] [(h, .inr (3, [.ref q_h_rules, .ref q_h_codes, .ref q_h_volts, .ref q_h_grid, .int m_h_unknowns, .int m_h_size, .long m_h_divisor])), (q_h_rules, .inr (5, [.int m_h_rules_bits, .int m_h_rules_unit, .int m_h_rules_offset, .int m_h_rules_lean, .int m_h_rules_ref, .int m_h_rules_top, .ref q_h_rules_misses, .ref q_h_rules_resistors])), (q_h_codes, aI cy 12 m_h_codes), (q_h_volts, aI cy 12 m_h_volts), (q_h_grid, aJ cy 132 m_h_grid)]) (kqv D cy [(h, .inr (3, [.ref q_h_rules, .ref q_h_codes, .ref q_h_volts, .ref q_h_grid, .int z.1, .int m_h_size, .long m_h_divisor])), (q_h_rules, .inr (5, [.int m_h_rules_bits, .int m_h_rules_unit, .int m_h_rules_offset, .int m_h_rules_lean, .int m_h_rules_ref, .int m_h_rules_top, .ref q_h_rules_misses, .ref q_h_rules_resistors])), (q_h_codes, aI cy 12 m_h_codes), (q_h_volts, aI cy 12 m_h_volts), (q_h_grid, aJ cy 132 z.2)] (va_A [(h, .inr (3, [.ref q_h_rules, .ref q_h_codes, .ref q_h_volts, .ref q_h_grid, .int m_h_unknowns, .int m_h_size, .long m_h_divisor])), (q_h_rules, .inr (5, [.int m_h_rules_bits, .int m_h_rules_unit, .int m_h_rules_offset, .int m_h_rules_lean, .int m_h_rules_ref, .int m_h_rules_top, .ref q_h_rules_misses, .ref q_h_rules_resistors])), (q_h_codes, aI cy 12 m_h_codes), (q_h_volts, aI cy 12 m_h_volts), (q_h_grid, aJ cy 132 m_h_grid)] sz)) 0 0 (va_A [(h, .inr (3, [.ref q_h_rules, .ref q_h_codes, .ref q_h_volts, .ref q_h_grid, .int m_h_unknowns, .int m_h_size, .long m_h_divisor])), (q_h_rules, .inr (5, [.int m_h_rules_bits, .int m_h_rules_unit, .int m_h_rules_offset, .int m_h_rules_lean, .int m_h_rules_ref, .int m_h_rules_top, .ref q_h_rules_misses, .ref q_h_rules_resistors])), (q_h_codes, aI cy 12 m_h_codes), (q_h_volts, aI cy 12 m_h_volts), (q_h_grid, aJ cy 132 m_h_grid)] sz) :=
  met_of (fun A => kqv D cy [(h, .inr (3, [.ref q_h_rules, .ref q_h_codes, .ref q_h_volts, .ref q_h_grid, .int z.1, .int m_h_size, .long m_h_divisor])), (q_h_rules, .inr (5, [.int m_h_rules_bits, .int m_h_rules_unit, .int m_h_rules_offset, .int m_h_rules_lean, .int m_h_rules_ref, .int m_h_rules_top, .ref q_h_rules_misses, .ref q_h_rules_resistors])), (q_h_codes, aI cy 12 m_h_codes), (q_h_volts, aI cy 12 m_h_volts), (q_h_grid, aJ cy 132 z.2)] A) (by decide +kernel) (Nat.le_of_ble_eq_true rfl) (fun p e s m below meth c A ls C hP hD hS hl => k_X3_fillGrid C hf hP hD hS hl)
theorem hd_X3_fillGrid : yX3_fillGrid.cls ≠ "java/lang/invoke/MethodHandle" ∧ yX3_fillGrid.cls ≠ "java/lang/invoke/VarHandle" ∧ (parseMethodDescriptor yX3_fillGrid.desc).map (fun d => d.parameters.length) = some 0 := by decide +kernel
def f_X3_cell (v1 : Int32) (v2 : Int32) (m_h_grid : Nat → Int64) : Option (Int64) :=
  zl ((v1 * (11 : Int32)) + v2) fun x6 =>
  if x6 < 0 then
    some (0 : Int64)
  else
    if (132 : Int32) ≤ x6 then
      some (0 : Int64)
    else
      zc x6 132 <|
      some (m_h_grid x6.toNatClampNeg)
set_option maxHeartbeats 4000000 in
set_option maxRecDepth 100000 in
theorem k_X3_cell {h q_h_rules q_h_codes q_h_volts q_h_grid : Nat} {v1 : Int32} {v2 : Int32} {m_h_unknowns : Int32} {m_h_size : Int32} {m_h_divisor : Int64} {m_h_grid : Nat → Int64} {z : Int64} (C : cx p s m args meth c cX3_cell 4 (some .long) RX3 D cy A) (hf : f_X3_cell v1 v2 m_h_grid = some z) (hP : va_P D vwCl [(h, .inr (3, [.ref q_h_rules, .ref q_h_codes, .ref q_h_volts, .ref q_h_grid, .int m_h_unknowns, .int m_h_size, .long m_h_divisor])), (q_h_grid, aJ cy 132 m_h_grid)] H) (hD : va_D A [(h, .inr (3, [.ref q_h_rules, .ref q_h_codes, .ref q_h_volts, .ref q_h_grid, .int m_h_unknowns, .int m_h_size, .long m_h_divisor])), (q_h_grid, aJ cy 132 m_h_grid)]) (hS : va_S A s.heap H locs) (hl : lv_has ls 4 [(0, .ref h), (1, .int v1), (2, .int v2)]) : W p l e ({ frames := 0, cells := 0, slots := 0, locals := 0 } : Room) s m args below meth c H locs 0 0 (MQ below (kql D cy [(h, .inr (3, [.ref q_h_rules, .ref q_h_codes, .ref q_h_volts, .ref q_h_grid, .int m_h_unknowns, .int m_h_size, .long m_h_divisor])), (q_h_grid, aJ cy 132 m_h_grid)] z A) args s 0 0 A) (F0 m 0 ls []) := by
  obtain ⟨hx, hb, hr, hml, hown, hts, hlk, hK, hA, hN⟩ := id C
  unfold f_X3_cell at hf
  refine lv_iload_n hx hb dX3_cell_0 rfl (lv_at hl 1 rfl) ?_
  refine lv_bipush (v := 11) hx hb dX3_cell_1 (by decide) ?_
  refine lv_imul hx hb dX3_cell_3 ?_
  refine lv_iload_n hx hb dX3_cell_4 rfl (lv_at hl 2 rfl) ?_
  refine lv_iadd hx hb dX3_cell_5 ?_
  refine lv_topi (fun x6 ex6 => ?_)
  have hf := zl_of hf x6 ex6
  refine lv_istore_n (lv' := [(3, .int x6), (0, .ref h), (1, .int v1), (2, .int v2)]) hx hb dX3_cell_6 rfl hl (by decide) rfl (fun ls hl => ?_)
  refine lv_iload_n hx hb dX3_cell_7 rfl (lv_at hl 0 rfl) ?_
  refine lv_if_lt (tgt := 29) hx hb dX3_cell_8 (by decide) (fun c8 => ?_) (fun c8 => ?_)
  · have hf := zt c8 hf
    refine lv_lconst (v := 0) hx hb dX3_cell_29 (by decide) ?_
    obtain rfl := Option.some.inj hf
    exact ret_l C hP hD hS dX3_cell_30
  · have hf := zf c8 hf
    refine lv_iload_n hx hb dX3_cell_11 rfl (lv_at hl 0 rfl) ?_
    refine lv_aload_n hx hb dX3_cell_12 rfl (lv_at hl 1 rfl) ?_
    refine va_get (D := D) (ci := 3) (v := .ref q_h_grid) (C := RX3) (T := TX3) (N := 7) hx hb hts ui_X3 hown hK hP 0 rfl rfl 3 (by decide) (hts _ fl_X3_20) (fun _ h9 => h9) rfl dX3_cell_13 ?_
    refine va_alen (v := (132 : Int32)) hx hb hK hP 1 2 rfl rfl rfl dX3_cell_16 ?_
    refine lv_icmp_ge (tgt := 29) hx hb dX3_cell_17 (by decide) (fun c17 => ?_) (fun c17 => ?_)
    · have hf := zt c17 hf
      refine lv_lconst (v := 0) hx hb dX3_cell_29 (by decide) ?_
      obtain rfl := Option.some.inj hf
      exact ret_l C hP hD hS dX3_cell_30
    · have hf := zf c17 hf
      refine lv_aload_n hx hb dX3_cell_20 rfl (lv_at hl 1 rfl) ?_
      refine va_get (D := D) (ci := 3) (v := .ref q_h_grid) (C := RX3) (T := TX3) (N := 7) hx hb hts ui_X3 hown hK hP 0 rfl rfl 3 (by decide) (hts _ fl_X3_20) (fun _ h9 => h9) rfl dX3_cell_21 ?_
      refine lv_iload_n hx hb dX3_cell_24 rfl (lv_at hl 0 rfl) ?_
      obtain ⟨hin, hf⟩ := zc_of hf
      refine va_lald hx hb hK hP 1 2 rfl rfl hin dX3_cell_25 ?_
      refine lv_goto (tgt := 30) hx hb dX3_cell_26 (by decide) ?_
      obtain rfl := Option.some.inj hf
      exact ret_l C hP hD hS dX3_cell_30
set_option maxRecDepth 100000 in
theorem c_X3_cell (l : Launch) (D : va_G) (cy : Nat → ClassId) (sz : Nat) (h q_h_rules q_h_codes q_h_volts q_h_grid : Nat) (v1 : Int32) (v2 : Int32) (m_h_unknowns : Int32) (m_h_size : Int32) (m_h_divisor : Int64) (m_h_grid : Nat → Int64) {z : Int64} (hf : f_X3_cell v1 v2 m_h_grid = some z) : Met l yX3_cell (.code yX3_cell cX3_cell 4 (some .long) :: tb) ({ frames := 0, cells := 0, slots := 0, locals := 0 } : Room) (kp D cy sz [.ref h, .int v1, .int v2] [(h, .inr (3, [.ref q_h_rules, .ref q_h_codes, .ref q_h_volts, .ref q_h_grid, .int m_h_unknowns, .int m_h_size, .long m_h_divisor])), (q_h_grid, aJ cy 132 m_h_grid)]) (kql D cy [(h, .inr (3, [.ref q_h_rules, .ref q_h_codes, .ref q_h_volts, .ref q_h_grid, .int m_h_unknowns, .int m_h_size, .long m_h_divisor])), (q_h_grid, aJ cy 132 m_h_grid)] z (va_A [(h, .inr (3, [.ref q_h_rules, .ref q_h_codes, .ref q_h_volts, .ref q_h_grid, .int m_h_unknowns, .int m_h_size, .long m_h_divisor])), (q_h_grid, aJ cy 132 m_h_grid)] sz)) 0 0 (va_A [(h, .inr (3, [.ref q_h_rules, .ref q_h_codes, .ref q_h_volts, .ref q_h_grid, .int m_h_unknowns, .int m_h_size, .long m_h_divisor])), (q_h_grid, aJ cy 132 m_h_grid)] sz) :=
  met_of (fun A => kql D cy [(h, .inr (3, [.ref q_h_rules, .ref q_h_codes, .ref q_h_volts, .ref q_h_grid, .int m_h_unknowns, .int m_h_size, .long m_h_divisor])), (q_h_grid, aJ cy 132 m_h_grid)] z A) (by decide +kernel) (Nat.le_of_ble_eq_true rfl) (fun p e s m below meth c A ls C hP hD hS hl => k_X3_cell C hf hP hD hS hl)
theorem hd_X3_cell : yX3_cell.cls ≠ "java/lang/invoke/MethodHandle" ∧ yX3_cell.cls ≠ "java/lang/invoke/VarHandle" ∧ (parseMethodDescriptor yX3_cell.desc).map (fun d => d.parameters.length) = some 2 := by decide +kernel
def f_X3_rowWith_L2 (v1 : Int32) (m_h_size : Int32) (m_h_grid : Nat → Int64) (w : Int32) : Option (Nat × (Int32)) :=
  if m_h_size ≤ w then
    some (1, w)
  else
    zb (f_X3_cell w v1 m_h_grid) fun z13 =>
    if (lg_cmp z13 (0 : Int64)) = 0 then
      zl (w + (1 : Int32)) fun x23 =>
      some (0, x23)
    else
      some (2, w)
set_option maxHeartbeats 4000000 in
set_option maxRecDepth 100000 in
theorem k_X3_rowWith_L2 {h q_h_rules q_h_codes q_h_volts q_h_grid : Nat} {v1 : Int32} {m_h_unknowns : Int32} {m_h_size : Int32} {m_h_divisor : Int64} {m_h_grid : Nat → Int64} {w : Int32} {z : Nat × (Int32)} (C : cx p s m args meth c cX3_rowWith 4 (some .int) RX3 D cy A) (hf : f_X3_rowWith_L2 v1 m_h_size m_h_grid w = some z) (hP : va_P D vwCl [(h, .inr (3, [.ref q_h_rules, .ref q_h_codes, .ref q_h_volts, .ref q_h_grid, .int m_h_unknowns, .int m_h_size, .long m_h_divisor])), (q_h_grid, aJ cy 132 m_h_grid)] H) (hD : va_D A [(h, .inr (3, [.ref q_h_rules, .ref q_h_codes, .ref q_h_volts, .ref q_h_grid, .int m_h_unknowns, .int m_h_size, .long m_h_divisor])), (q_h_grid, aJ cy 132 m_h_grid)]) (hS : va_S A s.heap H locs) (hl : lv_has ls 4 [(0, .ref h), (1, .int v1), (3, .int w)]) (hE0 : ∀ (H : Heap) (locs : List Loc) (ls : Array Slot), z.1 = 0 → va_P D vwCl [(h, .inr (3, [.ref q_h_rules, .ref q_h_codes, .ref q_h_volts, .ref q_h_grid, .int m_h_unknowns, .int m_h_size, .long m_h_divisor])), (q_h_grid, aJ cy 132 m_h_grid)] H → va_D A [(h, .inr (3, [.ref q_h_rules, .ref q_h_codes, .ref q_h_volts, .ref q_h_grid, .int m_h_unknowns, .int m_h_size, .long m_h_divisor])), (q_h_grid, aJ cy 132 m_h_grid)] → va_S A s.heap H locs → lv_has ls 4 [(0, .ref h), (1, .int v1), (3, .int z.2)] → W p l e ({ frames := 1, cells := 0, slots := 0, locals := 23 } : Room) s m args below meth c H locs 0 0 Q (F0 m 2 ls [])) (hE1 : ∀ (H : Heap) (locs : List Loc) (ls : Array Slot), z.1 = 1 → va_P D vwCl [(h, .inr (3, [.ref q_h_rules, .ref q_h_codes, .ref q_h_volts, .ref q_h_grid, .int m_h_unknowns, .int m_h_size, .long m_h_divisor])), (q_h_grid, aJ cy 132 m_h_grid)] H → va_D A [(h, .inr (3, [.ref q_h_rules, .ref q_h_codes, .ref q_h_volts, .ref q_h_grid, .int m_h_unknowns, .int m_h_size, .long m_h_divisor])), (q_h_grid, aJ cy 132 m_h_grid)] → va_S A s.heap H locs → lv_has ls 4 [] → W p l e ({ frames := 1, cells := 0, slots := 0, locals := 23 } : Room) s m args below meth c H locs 0 0 Q (F0 m 29 ls [])) (hE2 : ∀ (H : Heap) (locs : List Loc) (ls : Array Slot), z.1 = 2 → va_P D vwCl [(h, .inr (3, [.ref q_h_rules, .ref q_h_codes, .ref q_h_volts, .ref q_h_grid, .int m_h_unknowns, .int m_h_size, .long m_h_divisor])), (q_h_grid, aJ cy 132 m_h_grid)] H → va_D A [(h, .inr (3, [.ref q_h_rules, .ref q_h_codes, .ref q_h_volts, .ref q_h_grid, .int m_h_unknowns, .int m_h_size, .long m_h_divisor])), (q_h_grid, aJ cy 132 m_h_grid)] → va_S A s.heap H locs → lv_has ls 4 [(3, .int z.2)] → W p l e ({ frames := 1, cells := 0, slots := 0, locals := 23 } : Room) s m args below meth c H locs 0 0 Q (F0 m 21 ls [])) : W p l e ({ frames := 1, cells := 0, slots := 0, locals := 23 } : Room) s m args below meth c H locs 0 0 Q (F0 m 2 ls []) := by
  obtain ⟨hx, hb, hr, hml, hown, hts, hlk, hK, hA, hN⟩ := id C
  unfold f_X3_rowWith_L2 at hf
  refine lv_iload_n hx hb dX3_rowWith_2 rfl (lv_at hl 2 rfl) ?_
  refine lv_aload_n hx hb dX3_rowWith_3 rfl (lv_at hl 0 rfl) ?_
  refine va_get (D := D) (ci := 3) (v := .int m_h_size) (C := RX3) (T := TX3) (N := 7) hx hb hts ui_X3 hown hK hP 0 rfl rfl 5 (by decide) (hts _ fl_X3_28) (fun _ h9 => h9) rfl dX3_rowWith_4 ?_
  refine lv_icmp_ge (tgt := 29) hx hb dX3_rowWith_7 (by decide) (fun c7 => ?_) (fun c7 => ?_)
  · have hf := zt c7 hf
    obtain rfl := Option.some.inj hf
    exact hE1 _ _ _ rfl hP hD hS (lv_sub hl [] rfl)
  · have hf := zf c7 hf
    refine lv_aload_n hx hb dX3_rowWith_10 rfl (lv_at hl 0 rfl) ?_
    refine lv_iload_n hx hb dX3_rowWith_11 rfl (lv_at hl 2 rfl) ?_
    refine lv_iload_n hx hb dX3_rowWith_12 rfl (lv_at hl 1 rfl) ?_
    obtain ⟨z13, hz13, hf⟩ := zb_of hf
    refine goL (wr := []) (ws' := [(h, .inr (3, [.ref q_h_rules, .ref q_h_codes, .ref q_h_volts, .ref q_h_grid, .int m_h_unknowns, .int m_h_size, .long m_h_divisor])), (q_h_grid, aJ cy 132 m_h_grid)]) C (runV (n := 2) (As := [.int w, .int v1]) (rest := []) C (c_X3_cell l D cy H.size h q_h_rules q_h_codes q_h_volts q_h_grid w v1 m_h_unknowns m_h_size m_h_divisor m_h_grid hz13) ml_X3_62 im_X3_cell se_X3_cell ii_X3 cd_X3_cell hd_X3_cell rfl rfl ⟨Nat.le_of_ble_eq_true rfl, Nat.le_of_ble_eq_true rfl⟩ (hP.sub [0, 1] rfl) (hD.sub [0, 1] (by decide) rfl) hS rfl rfl rfl hl.1 rfl (Nat.le_of_ble_eq_true rfl) dX3_rowWith_13) hP hD hS [0, 1] [] [0, 1] rfl rfl (by decide) (by decide) rfl (by decide) (fun H locs hP hD hS => ?_)
    refine lv_lconst (v := 0) hx hb dX3_rowWith_16 (by decide) ?_
    refine W.lcmp hx hb dX3_rowWith_17 ?_
    refine lv_if_eq (tgt := 23) hx hb dX3_rowWith_18 (by decide) (fun c18 => ?_) (fun c18 => ?_)
    · have hf := zt c18 hf
      obtain ⟨x23, ex23⟩ : ∃ y : Int32, y = w + (1 : Int32) := ⟨_, rfl⟩
      have hf := zl_of hf x23 ex23
      refine lv_iinc (v := x23) (lv' := [(3, .int x23), (0, .ref h), (1, .int v1)]) hx hb dX3_rowWith_23 hl (k := 2) rfl (by rw [ex23]; rfl) (by decide) rfl (fun ls hl => ?_)
      refine lv_goto (tgt := 2) hx hb dX3_rowWith_26 (by decide) ?_
      obtain rfl := Option.some.inj hf
      exact hE0 _ _ _ rfl hP hD hS (lv_sub hl [1, 2, 0] rfl)
    · have hf := zf c18 hf
      obtain rfl := Option.some.inj hf
      exact hE2 _ _ _ rfl hP hD hS (lv_sub hl [2] rfl)
set_option maxHeartbeats 4000000 in
set_option maxRecDepth 100000 in
theorem kl_X3_rowWith_L2 {h q_h_rules q_h_codes q_h_volts q_h_grid : Nat} {v1 : Int32} {m_h_unknowns : Int32} {m_h_size : Int32} {m_h_divisor : Int64} {m_h_grid : Nat → Int64} (C : cx p s m args meth c cX3_rowWith 4 (some .int) RX3 D cy A) : ∀ (n : Nat) (w : Int32) (z : Nat × (Int32)) (H : Heap) (locs : List Loc) (ls : Array Slot), zp (f_X3_rowWith_L2 v1 m_h_size m_h_grid) n w = some z → va_P D vwCl [(h, .inr (3, [.ref q_h_rules, .ref q_h_codes, .ref q_h_volts, .ref q_h_grid, .int m_h_unknowns, .int m_h_size, .long m_h_divisor])), (q_h_grid, aJ cy 132 m_h_grid)] H → va_D A [(h, .inr (3, [.ref q_h_rules, .ref q_h_codes, .ref q_h_volts, .ref q_h_grid, .int m_h_unknowns, .int m_h_size, .long m_h_divisor])), (q_h_grid, aJ cy 132 m_h_grid)] → va_S A s.heap H locs → lv_has ls 4 [(0, .ref h), (1, .int v1), (3, .int w)] → (∀ (H : Heap) (locs : List Loc) (ls : Array Slot), z.1 = 1 → va_P D vwCl [(h, .inr (3, [.ref q_h_rules, .ref q_h_codes, .ref q_h_volts, .ref q_h_grid, .int m_h_unknowns, .int m_h_size, .long m_h_divisor])), (q_h_grid, aJ cy 132 m_h_grid)] H → va_D A [(h, .inr (3, [.ref q_h_rules, .ref q_h_codes, .ref q_h_volts, .ref q_h_grid, .int m_h_unknowns, .int m_h_size, .long m_h_divisor])), (q_h_grid, aJ cy 132 m_h_grid)] → va_S A s.heap H locs → lv_has ls 4 [] → W p l e ({ frames := 1, cells := 0, slots := 0, locals := 23 } : Room) s m args below meth c H locs 0 0 Q (F0 m 29 ls [])) → (∀ (H : Heap) (locs : List Loc) (ls : Array Slot), z.1 = 2 → va_P D vwCl [(h, .inr (3, [.ref q_h_rules, .ref q_h_codes, .ref q_h_volts, .ref q_h_grid, .int m_h_unknowns, .int m_h_size, .long m_h_divisor])), (q_h_grid, aJ cy 132 m_h_grid)] H → va_D A [(h, .inr (3, [.ref q_h_rules, .ref q_h_codes, .ref q_h_volts, .ref q_h_grid, .int m_h_unknowns, .int m_h_size, .long m_h_divisor])), (q_h_grid, aJ cy 132 m_h_grid)] → va_S A s.heap H locs → lv_has ls 4 [(3, .int z.2)] → W p l e ({ frames := 1, cells := 0, slots := 0, locals := 23 } : Room) s m args below meth c H locs 0 0 Q (F0 m 21 ls [])) → W p l e ({ frames := 1, cells := 0, slots := 0, locals := 23 } : Room) s m args below meth c H locs 0 0 Q (F0 m 2 ls []) := by
  intro n
  induction n with
  | zero => intro w z H locs ls hf; cases hf
  | succ n ih =>
    intro w z H locs ls hf hP hD hS hl hE1 hE2
    obtain ⟨w1, hw, hd⟩ := zp_s hf
    refine k_X3_rowWith_L2 C hw hP hD hS hl (fun H locs ls h0 hP hD hS hl => ?_) (fun H locs ls h0 hP hD hS hl => ?_) (fun H locs ls h0 hP hD hS hl => ?_)
    · rcases hd with ⟨_, h⟩ | ⟨h, _⟩
      · exact ih _ _ _ _ _ h hP hD hS hl hE1 hE2
      · exact absurd h0 h
    · rcases hd with ⟨h, _⟩ | ⟨_, h⟩
      · exact absurd (h.symm.trans h0) (by decide)
      · subst h; exact hE1 _ _ _ h0 hP hD hS hl
    · rcases hd with ⟨h, _⟩ | ⟨_, h⟩
      · exact absurd (h.symm.trans h0) (by decide)
      · subst h; exact hE2 _ _ _ h0 hP hD hS hl
def f_X3_rowWith (v1 : Int32) (v2 : Int32) (m_h_size : Int32) (m_h_grid : Nat → Int64) : Option (Int32) :=
  zb (zp (f_X3_rowWith_L2 v1 m_h_size m_h_grid) zF v2) fun z2 =>
  if z2.1 = 1 then
    some (-4 : Int32)
  else
    some z2.2
set_option maxHeartbeats 4000000 in
set_option maxRecDepth 100000 in
theorem k_X3_rowWith {h q_h_rules q_h_codes q_h_volts q_h_grid : Nat} {v1 : Int32} {v2 : Int32} {m_h_unknowns : Int32} {m_h_size : Int32} {m_h_divisor : Int64} {m_h_grid : Nat → Int64} {z : Int32} (C : cx p s m args meth c cX3_rowWith 4 (some .int) RX3 D cy A) (hf : f_X3_rowWith v1 v2 m_h_size m_h_grid = some z) (hP : va_P D vwCl [(h, .inr (3, [.ref q_h_rules, .ref q_h_codes, .ref q_h_volts, .ref q_h_grid, .int m_h_unknowns, .int m_h_size, .long m_h_divisor])), (q_h_grid, aJ cy 132 m_h_grid)] H) (hD : va_D A [(h, .inr (3, [.ref q_h_rules, .ref q_h_codes, .ref q_h_volts, .ref q_h_grid, .int m_h_unknowns, .int m_h_size, .long m_h_divisor])), (q_h_grid, aJ cy 132 m_h_grid)]) (hS : va_S A s.heap H locs) (hl : lv_has ls 4 [(0, .ref h), (1, .int v1), (2, .int v2)]) : W p l e ({ frames := 1, cells := 0, slots := 0, locals := 23 } : Room) s m args below meth c H locs 0 0 (MQ below (kqi D cy [(h, .inr (3, [.ref q_h_rules, .ref q_h_codes, .ref q_h_volts, .ref q_h_grid, .int m_h_unknowns, .int m_h_size, .long m_h_divisor])), (q_h_grid, aJ cy 132 m_h_grid)] z A) args s 0 0 A) (F0 m 0 ls []) := by
  obtain ⟨hx, hb, hr, hml, hown, hts, hlk, hK, hA, hN⟩ := id C
  unfold f_X3_rowWith at hf
  refine lv_iload_n hx hb dX3_rowWith_0 rfl (lv_at hl 2 rfl) ?_
  refine lv_istore_n (lv' := [(3, .int v2), (0, .ref h), (1, .int v1), (2, .int v2)]) hx hb dX3_rowWith_1 rfl hl (by decide) rfl (fun ls hl => ?_)
  obtain ⟨z2, hz2, hf⟩ := zb_of hf
  refine kl_X3_rowWith_L2 C _ _ _ _ _ _ hz2 hP hD hS (lv_sub hl [1, 2, 0] rfl) (fun H locs ls h0 hP hD hS hl => ?_) (fun H locs ls h0 hP hD hS hl => ?_)
  · have hf := zt h0 hf
    refine lv_bipush (v := -4) hx hb dX3_rowWith_29 (by decide) ?_
    obtain rfl := Option.some.inj hf
    exact ret_i C hP hD hS dX3_rowWith_31
  · have hf := zf (by rw [h0]; decide) hf
    refine lv_iload_n hx hb dX3_rowWith_21 rfl (lv_at hl 0 rfl) ?_
    obtain rfl := Option.some.inj hf
    exact ret_i C hP hD hS dX3_rowWith_22
set_option maxRecDepth 100000 in
theorem c_X3_rowWith (l : Launch) (D : va_G) (cy : Nat → ClassId) (sz : Nat) (h q_h_rules q_h_codes q_h_volts q_h_grid : Nat) (v1 : Int32) (v2 : Int32) (m_h_unknowns : Int32) (m_h_size : Int32) (m_h_divisor : Int64) (m_h_grid : Nat → Int64) {z : Int32} (hf : f_X3_rowWith v1 v2 m_h_size m_h_grid = some z) : Met l yX3_rowWith (.code yX3_rowWith cX3_rowWith 4 (some .int) :: tb) ({ frames := 1, cells := 0, slots := 0, locals := 23 } : Room) (kp D cy sz [.ref h, .int v1, .int v2] [(h, .inr (3, [.ref q_h_rules, .ref q_h_codes, .ref q_h_volts, .ref q_h_grid, .int m_h_unknowns, .int m_h_size, .long m_h_divisor])), (q_h_grid, aJ cy 132 m_h_grid)]) (kqi D cy [(h, .inr (3, [.ref q_h_rules, .ref q_h_codes, .ref q_h_volts, .ref q_h_grid, .int m_h_unknowns, .int m_h_size, .long m_h_divisor])), (q_h_grid, aJ cy 132 m_h_grid)] z (va_A [(h, .inr (3, [.ref q_h_rules, .ref q_h_codes, .ref q_h_volts, .ref q_h_grid, .int m_h_unknowns, .int m_h_size, .long m_h_divisor])), (q_h_grid, aJ cy 132 m_h_grid)] sz)) 0 0 (va_A [(h, .inr (3, [.ref q_h_rules, .ref q_h_codes, .ref q_h_volts, .ref q_h_grid, .int m_h_unknowns, .int m_h_size, .long m_h_divisor])), (q_h_grid, aJ cy 132 m_h_grid)] sz) :=
  met_of (fun A => kqi D cy [(h, .inr (3, [.ref q_h_rules, .ref q_h_codes, .ref q_h_volts, .ref q_h_grid, .int m_h_unknowns, .int m_h_size, .long m_h_divisor])), (q_h_grid, aJ cy 132 m_h_grid)] z A) (by decide +kernel) (Nat.le_of_ble_eq_true rfl) (fun p e s m below meth c A ls C hP hD hS hl => k_X3_rowWith C hf hP hD hS hl)
theorem hd_X3_rowWith : yX3_rowWith.cls ≠ "java/lang/invoke/MethodHandle" ∧ yX3_rowWith.cls ≠ "java/lang/invoke/VarHandle" ∧ (parseMethodDescriptor yX3_rowWith.desc).map (fun d => d.parameters.length) = some 2 := by decide +kernel
def f_X3_swapRows_L2 (v1 : Int32) (v2 : Int32) (m_h_unknowns : Int32) (w : Int32 × (Nat → Int64)) : Option (Nat × (Int32 × (Nat → Int64))) :=
  if m_h_unknowns < w.1 then
    some (1, (w.1, w.2))
  else
    zb (f_X3_cell v1 w.1 w.2) fun z13 =>
    zb (f_X3_cell v2 w.1 w.2) fun z24 =>
    zb (f_X3_putCell v1 w.1 z24 w.2) fun z27 =>
    zb (f_X3_putCell v2 w.1 z13 z27) fun z35 =>
    zl (w.1 + (1 : Int32)) fun x38 =>
    some (0, (x38, z35))
set_option maxHeartbeats 4000000 in
set_option maxRecDepth 100000 in
theorem k_X3_swapRows_L2 {h q_h_rules q_h_codes q_h_volts q_h_grid : Nat} {v1 : Int32} {v2 : Int32} {m_h_unknowns : Int32} {m_h_size : Int32} {m_h_divisor : Int64} {w : Int32 × (Nat → Int64)} {z : Nat × (Int32 × (Nat → Int64))} (C : cx p s m args meth c cX3_swapRows 6 none RX3 D cy A) (hf : f_X3_swapRows_L2 v1 v2 m_h_unknowns w = some z) (hP : va_P D vwCl [(h, .inr (3, [.ref q_h_rules, .ref q_h_codes, .ref q_h_volts, .ref q_h_grid, .int m_h_unknowns, .int m_h_size, .long m_h_divisor])), (q_h_grid, aJ cy 132 w.2)] H) (hD : va_D A [(h, .inr (3, [.ref q_h_rules, .ref q_h_codes, .ref q_h_volts, .ref q_h_grid, .int m_h_unknowns, .int m_h_size, .long m_h_divisor])), (q_h_grid, aJ cy 132 w.2)]) (hS : va_S A s.heap H locs) (hl : lv_has ls 6 [(0, .ref h), (1, .int v1), (2, .int v2), (3, .int w.1)]) (hE0 : ∀ (H : Heap) (locs : List Loc) (ls : Array Slot), z.1 = 0 → va_P D vwCl [(h, .inr (3, [.ref q_h_rules, .ref q_h_codes, .ref q_h_volts, .ref q_h_grid, .int m_h_unknowns, .int m_h_size, .long m_h_divisor])), (q_h_grid, aJ cy 132 z.2.2)] H → va_D A [(h, .inr (3, [.ref q_h_rules, .ref q_h_codes, .ref q_h_volts, .ref q_h_grid, .int m_h_unknowns, .int m_h_size, .long m_h_divisor])), (q_h_grid, aJ cy 132 z.2.2)] → va_S A s.heap H locs → lv_has ls 6 [(0, .ref h), (1, .int v1), (2, .int v2), (3, .int z.2.1)] → W p l e ({ frames := 1, cells := 0, slots := 0, locals := 25 } : Room) s m args below meth c H locs 0 0 Q (F0 m 2 ls [])) (hE1 : ∀ (H : Heap) (locs : List Loc) (ls : Array Slot), z.1 = 1 → va_P D vwCl [(h, .inr (3, [.ref q_h_rules, .ref q_h_codes, .ref q_h_volts, .ref q_h_grid, .int m_h_unknowns, .int m_h_size, .long m_h_divisor])), (q_h_grid, aJ cy 132 z.2.2)] H → va_D A [(h, .inr (3, [.ref q_h_rules, .ref q_h_codes, .ref q_h_volts, .ref q_h_grid, .int m_h_unknowns, .int m_h_size, .long m_h_divisor])), (q_h_grid, aJ cy 132 z.2.2)] → va_S A s.heap H locs → lv_has ls 6 [] → W p l e ({ frames := 1, cells := 0, slots := 0, locals := 25 } : Room) s m args below meth c H locs 0 0 Q (F0 m 44 ls [])) : W p l e ({ frames := 1, cells := 0, slots := 0, locals := 25 } : Room) s m args below meth c H locs 0 0 Q (F0 m 2 ls []) := by
  obtain ⟨hx, hb, hr, hml, hown, hts, hlk, hK, hA, hN⟩ := id C
  unfold f_X3_swapRows_L2 at hf
  refine lv_iload_n hx hb dX3_swapRows_2 rfl (lv_at hl 3 rfl) ?_
  refine lv_aload_n hx hb dX3_swapRows_3 rfl (lv_at hl 0 rfl) ?_
  refine va_get (D := D) (ci := 3) (v := .int m_h_unknowns) (C := RX3) (T := TX3) (N := 7) hx hb hts ui_X3 hown hK hP 0 rfl rfl 4 (by decide) (hts _ fl_X3_24) (fun _ h9 => h9) rfl dX3_swapRows_4 ?_
  refine lv_icmp_gt (tgt := 44) hx hb dX3_swapRows_7 (by decide) (fun c7 => ?_) (fun c7 => ?_)
  · have hf := zt c7 hf
    obtain rfl := Option.some.inj hf
    exact hE1 _ _ _ rfl hP hD hS (lv_sub hl [] rfl)
  · have hf := zf c7 hf
    refine lv_aload_n hx hb dX3_swapRows_10 rfl (lv_at hl 0 rfl) ?_
    refine lv_iload_n hx hb dX3_swapRows_11 rfl (lv_at hl 1 rfl) ?_
    refine lv_iload_n hx hb dX3_swapRows_12 rfl (lv_at hl 3 rfl) ?_
    obtain ⟨z13, hz13, hf⟩ := zb_of hf
    refine goL (wr := []) (ws' := [(h, .inr (3, [.ref q_h_rules, .ref q_h_codes, .ref q_h_volts, .ref q_h_grid, .int m_h_unknowns, .int m_h_size, .long m_h_divisor])), (q_h_grid, aJ cy 132 w.2)]) C (runV (n := 2) (As := [.int v1, .int w.1]) (rest := []) C (c_X3_cell l D cy H.size h q_h_rules q_h_codes q_h_volts q_h_grid v1 w.1 m_h_unknowns m_h_size m_h_divisor w.2 hz13) ml_X3_62 im_X3_cell se_X3_cell ii_X3 cd_X3_cell hd_X3_cell rfl rfl ⟨Nat.le_of_ble_eq_true rfl, Nat.le_of_ble_eq_true rfl⟩ (hP.sub [0, 1] rfl) (hD.sub [0, 1] (by decide) rfl) hS rfl rfl rfl hl.1 rfl (Nat.le_of_ble_eq_true rfl) dX3_swapRows_13) hP hD hS [0, 1] [] [0, 1] rfl rfl (by decide) (by decide) rfl (by decide) (fun H locs hP hD hS => ?_)
    refine lv_lstore (lv' := [(4, .long z13), (0, .ref h), (1, .int v1), (2, .int v2), (3, .int w.1)]) hx hb dX3_swapRows_16 hl (by decide) rfl (fun ls hl => ?_)
    refine lv_aload_n hx hb dX3_swapRows_18 rfl (lv_at hl 1 rfl) ?_
    refine lv_iload_n hx hb dX3_swapRows_19 rfl (lv_at hl 2 rfl) ?_
    refine lv_iload_n hx hb dX3_swapRows_20 rfl (lv_at hl 4 rfl) ?_
    refine lv_aload_n hx hb dX3_swapRows_21 rfl (lv_at hl 1 rfl) ?_
    refine lv_iload_n hx hb dX3_swapRows_22 rfl (lv_at hl 3 rfl) ?_
    refine lv_iload_n hx hb dX3_swapRows_23 rfl (lv_at hl 4 rfl) ?_
    obtain ⟨z24, hz24, hf⟩ := zb_of hf
    refine goL (wr := []) (ws' := [(h, .inr (3, [.ref q_h_rules, .ref q_h_codes, .ref q_h_volts, .ref q_h_grid, .int m_h_unknowns, .int m_h_size, .long m_h_divisor])), (q_h_grid, aJ cy 132 w.2)]) C (runV (n := 2) (As := [.int v2, .int w.1]) (rest := [.int w.1, .int v1, .ref h]) C (c_X3_cell l D cy H.size h q_h_rules q_h_codes q_h_volts q_h_grid v2 w.1 m_h_unknowns m_h_size m_h_divisor w.2 hz24) ml_X3_62 im_X3_cell se_X3_cell ii_X3 cd_X3_cell hd_X3_cell rfl rfl ⟨Nat.le_of_ble_eq_true rfl, Nat.le_of_ble_eq_true rfl⟩ (hP.sub [0, 1] rfl) (hD.sub [0, 1] (by decide) rfl) hS rfl rfl rfl hl.1 rfl (Nat.le_of_ble_eq_true rfl) dX3_swapRows_24) hP hD hS [0, 1] [] [0, 1] rfl rfl (by decide) (by decide) rfl (by decide) (fun H locs hP hD hS => ?_)
    obtain ⟨z27, hz27, hf⟩ := zb_of hf
    refine goV (wr := []) (ws' := [(h, .inr (3, [.ref q_h_rules, .ref q_h_codes, .ref q_h_volts, .ref q_h_grid, .int m_h_unknowns, .int m_h_size, .long m_h_divisor])), (q_h_grid, aJ cy 132 z27)]) C (runV (n := 3) (As := [.int v1, .int w.1, .long z24]) (rest := []) C (c_X3_putCell l D cy H.size h q_h_rules q_h_codes q_h_volts q_h_grid v1 w.1 z24 m_h_unknowns m_h_size m_h_divisor w.2 hz27) ml_X3_70 im_X3_putCell se_X3_putCell ii_X3 cd_X3_putCell hd_X3_putCell rfl rfl ⟨Nat.le_of_ble_eq_true rfl, Nat.le_of_ble_eq_true rfl⟩ (hP.sub [0, 1] rfl) (hD.sub [0, 1] (by decide) rfl) hS rfl rfl rfl hl.1 rfl (Nat.le_of_ble_eq_true rfl) dX3_swapRows_27) hP hD hS [0, 1] [] [0, 1] rfl rfl (by decide) (by decide) rfl (by decide) (fun H locs hP hD hS => ?_)
    refine lv_aload_n hx hb dX3_swapRows_30 rfl (lv_at hl 1 rfl) ?_
    refine lv_iload_n hx hb dX3_swapRows_31 rfl (lv_at hl 3 rfl) ?_
    refine lv_iload_n hx hb dX3_swapRows_32 rfl (lv_at hl 4 rfl) ?_
    refine lv_lload hx hb dX3_swapRows_33 (lv_at hl 0 rfl) ?_
    obtain ⟨z35, hz35, hf⟩ := zb_of hf
    refine goV (wr := []) (ws' := [(h, .inr (3, [.ref q_h_rules, .ref q_h_codes, .ref q_h_volts, .ref q_h_grid, .int m_h_unknowns, .int m_h_size, .long m_h_divisor])), (q_h_grid, aJ cy 132 z35)]) C (runV (n := 3) (As := [.int v2, .int w.1, .long z13]) (rest := []) C (c_X3_putCell l D cy H.size h q_h_rules q_h_codes q_h_volts q_h_grid v2 w.1 z13 m_h_unknowns m_h_size m_h_divisor z27 hz35) ml_X3_70 im_X3_putCell se_X3_putCell ii_X3 cd_X3_putCell hd_X3_putCell rfl rfl ⟨Nat.le_of_ble_eq_true rfl, Nat.le_of_ble_eq_true rfl⟩ (hP.sub [0, 1] rfl) (hD.sub [0, 1] (by decide) rfl) hS rfl rfl rfl hl.1 rfl (Nat.le_of_ble_eq_true rfl) dX3_swapRows_35) hP hD hS [0, 1] [] [0, 1] rfl rfl (by decide) (by decide) rfl (by decide) (fun H locs hP hD hS => ?_)
    obtain ⟨x38, ex38⟩ : ∃ y : Int32, y = w.1 + (1 : Int32) := ⟨_, rfl⟩
    have hf := zl_of hf x38 ex38
    refine lv_iinc (v := x38) (lv' := [(3, .int x38), (4, .long z13), (0, .ref h), (1, .int v1), (2, .int v2)]) hx hb dX3_swapRows_38 hl (k := 4) rfl (by rw [ex38]; rfl) (by decide) rfl (fun ls hl => ?_)
    refine lv_goto (tgt := 2) hx hb dX3_swapRows_41 (by decide) ?_
    obtain rfl := Option.some.inj hf
    exact hE0 _ _ _ rfl hP hD hS (lv_sub hl [2, 3, 4, 0] rfl)
set_option maxHeartbeats 4000000 in
set_option maxRecDepth 100000 in
theorem kl_X3_swapRows_L2 {h q_h_rules q_h_codes q_h_volts q_h_grid : Nat} {v1 : Int32} {v2 : Int32} {m_h_unknowns : Int32} {m_h_size : Int32} {m_h_divisor : Int64} (C : cx p s m args meth c cX3_swapRows 6 none RX3 D cy A) : ∀ (n : Nat) (w : Int32 × (Nat → Int64)) (z : Nat × (Int32 × (Nat → Int64))) (H : Heap) (locs : List Loc) (ls : Array Slot), zp (f_X3_swapRows_L2 v1 v2 m_h_unknowns) n w = some z → va_P D vwCl [(h, .inr (3, [.ref q_h_rules, .ref q_h_codes, .ref q_h_volts, .ref q_h_grid, .int m_h_unknowns, .int m_h_size, .long m_h_divisor])), (q_h_grid, aJ cy 132 w.2)] H → va_D A [(h, .inr (3, [.ref q_h_rules, .ref q_h_codes, .ref q_h_volts, .ref q_h_grid, .int m_h_unknowns, .int m_h_size, .long m_h_divisor])), (q_h_grid, aJ cy 132 w.2)] → va_S A s.heap H locs → lv_has ls 6 [(0, .ref h), (1, .int v1), (2, .int v2), (3, .int w.1)] → (∀ (H : Heap) (locs : List Loc) (ls : Array Slot), z.1 = 1 → va_P D vwCl [(h, .inr (3, [.ref q_h_rules, .ref q_h_codes, .ref q_h_volts, .ref q_h_grid, .int m_h_unknowns, .int m_h_size, .long m_h_divisor])), (q_h_grid, aJ cy 132 z.2.2)] H → va_D A [(h, .inr (3, [.ref q_h_rules, .ref q_h_codes, .ref q_h_volts, .ref q_h_grid, .int m_h_unknowns, .int m_h_size, .long m_h_divisor])), (q_h_grid, aJ cy 132 z.2.2)] → va_S A s.heap H locs → lv_has ls 6 [] → W p l e ({ frames := 1, cells := 0, slots := 0, locals := 25 } : Room) s m args below meth c H locs 0 0 Q (F0 m 44 ls [])) → W p l e ({ frames := 1, cells := 0, slots := 0, locals := 25 } : Room) s m args below meth c H locs 0 0 Q (F0 m 2 ls []) := by
  intro n
  induction n with
  | zero => intro w z H locs ls hf; cases hf
  | succ n ih =>
    intro w z H locs ls hf hP hD hS hl hE1
    obtain ⟨w1, hw, hd⟩ := zp_s hf
    refine k_X3_swapRows_L2 C hw hP hD hS hl (fun H locs ls h0 hP hD hS hl => ?_) (fun H locs ls h0 hP hD hS hl => ?_)
    · rcases hd with ⟨_, h⟩ | ⟨h, _⟩
      · exact ih _ _ _ _ _ h hP hD hS hl hE1
      · exact absurd h0 h
    · rcases hd with ⟨h, _⟩ | ⟨_, h⟩
      · exact absurd (h.symm.trans h0) (by decide)
      · subst h; exact hE1 _ _ _ h0 hP hD hS hl
def f_X3_swapRows (v1 : Int32) (v2 : Int32) (m_h_unknowns : Int32) (m_h_grid : Nat → Int64) : Option ((Nat → Int64)) :=
  zb (zp (f_X3_swapRows_L2 v1 v2 m_h_unknowns) zF ((0 : Int32), m_h_grid)) fun z2 =>
  some z2.2.2
set_option maxHeartbeats 4000000 in
set_option maxRecDepth 100000 in
theorem k_X3_swapRows {h q_h_rules q_h_codes q_h_volts q_h_grid : Nat} {v1 : Int32} {v2 : Int32} {m_h_unknowns : Int32} {m_h_size : Int32} {m_h_divisor : Int64} {m_h_grid : Nat → Int64} {z : (Nat → Int64)} (C : cx p s m args meth c cX3_swapRows 6 none RX3 D cy A) (hf : f_X3_swapRows v1 v2 m_h_unknowns m_h_grid = some z) (hP : va_P D vwCl [(h, .inr (3, [.ref q_h_rules, .ref q_h_codes, .ref q_h_volts, .ref q_h_grid, .int m_h_unknowns, .int m_h_size, .long m_h_divisor])), (q_h_grid, aJ cy 132 m_h_grid)] H) (hD : va_D A [(h, .inr (3, [.ref q_h_rules, .ref q_h_codes, .ref q_h_volts, .ref q_h_grid, .int m_h_unknowns, .int m_h_size, .long m_h_divisor])), (q_h_grid, aJ cy 132 m_h_grid)]) (hS : va_S A s.heap H locs) (hl : lv_has ls 6 [(0, .ref h), (1, .int v1), (2, .int v2)]) : W p l e ({ frames := 1, cells := 0, slots := 0, locals := 25 } : Room) s m args below meth c H locs 0 0 (MQ below (kqv D cy [(h, .inr (3, [.ref q_h_rules, .ref q_h_codes, .ref q_h_volts, .ref q_h_grid, .int m_h_unknowns, .int m_h_size, .long m_h_divisor])), (q_h_grid, aJ cy 132 z)] A) args s 0 0 A) (F0 m 0 ls []) := by
  obtain ⟨hx, hb, hr, hml, hown, hts, hlk, hK, hA, hN⟩ := id C
  unfold f_X3_swapRows at hf
  refine lv_iconst (v := 0) hx hb dX3_swapRows_0 (by decide) ?_
  refine lv_istore_n (lv' := [(3, .int (0 : Int32)), (0, .ref h), (1, .int v1), (2, .int v2)]) hx hb dX3_swapRows_1 rfl hl (by decide) rfl (fun ls hl => ?_)
  obtain ⟨z2, hz2, hf⟩ := zb_of hf
  refine kl_X3_swapRows_L2 C _ _ _ _ _ _ hz2 hP hD hS (lv_sub hl [1, 2, 3, 0] rfl) (fun H locs ls h0 hP hD hS hl => ?_)
  obtain rfl := Option.some.inj hf
  exact ret_v C hP hD hS dX3_swapRows_44
set_option maxRecDepth 100000 in
theorem c_X3_swapRows (l : Launch) (D : va_G) (cy : Nat → ClassId) (sz : Nat) (h q_h_rules q_h_codes q_h_volts q_h_grid : Nat) (v1 : Int32) (v2 : Int32) (m_h_unknowns : Int32) (m_h_size : Int32) (m_h_divisor : Int64) (m_h_grid : Nat → Int64) {z : (Nat → Int64)} (hf : f_X3_swapRows v1 v2 m_h_unknowns m_h_grid = some z) : Met l yX3_swapRows (.code yX3_swapRows cX3_swapRows 6 none :: tb) ({ frames := 1, cells := 0, slots := 0, locals := 25 } : Room) (kp D cy sz [.ref h, .int v1, .int v2] [(h, .inr (3, [.ref q_h_rules, .ref q_h_codes, .ref q_h_volts, .ref q_h_grid, .int m_h_unknowns, .int m_h_size, .long m_h_divisor])), (q_h_grid, aJ cy 132 m_h_grid)]) (kqv D cy [(h, .inr (3, [.ref q_h_rules, .ref q_h_codes, .ref q_h_volts, .ref q_h_grid, .int m_h_unknowns, .int m_h_size, .long m_h_divisor])), (q_h_grid, aJ cy 132 z)] (va_A [(h, .inr (3, [.ref q_h_rules, .ref q_h_codes, .ref q_h_volts, .ref q_h_grid, .int m_h_unknowns, .int m_h_size, .long m_h_divisor])), (q_h_grid, aJ cy 132 m_h_grid)] sz)) 0 0 (va_A [(h, .inr (3, [.ref q_h_rules, .ref q_h_codes, .ref q_h_volts, .ref q_h_grid, .int m_h_unknowns, .int m_h_size, .long m_h_divisor])), (q_h_grid, aJ cy 132 m_h_grid)] sz) :=
  met_of (fun A => kqv D cy [(h, .inr (3, [.ref q_h_rules, .ref q_h_codes, .ref q_h_volts, .ref q_h_grid, .int m_h_unknowns, .int m_h_size, .long m_h_divisor])), (q_h_grid, aJ cy 132 z)] A) (by decide +kernel) (Nat.le_of_ble_eq_true rfl) (fun p e s m below meth c A ls C hP hD hS hl => k_X3_swapRows C hf hP hD hS hl)
theorem hd_X3_swapRows : yX3_swapRows.cls ≠ "java/lang/invoke/MethodHandle" ∧ yX3_swapRows.cls ≠ "java/lang/invoke/VarHandle" ∧ (parseMethodDescriptor yX3_swapRows.desc).map (fun d => d.parameters.length) = some 2 := by decide +kernel
def f_X3_clearCell_L21 (v1 : Int32) (v3 : Int32) (v4 : Int64) (v6 : Int64) (m_h_unknowns : Int32) (m_h_divisor : Int64) (w : Int32 × (Nat → Int64)) : Option (Nat × (Int32 × (Nat → Int64))) :=
  if m_h_unknowns < w.1 then
    some (1, (w.1, w.2))
  else
    zb (f_X3_cell v1 w.1 w.2) fun z36 =>
    zb (f_X3_cell v3 w.1 w.2) fun z46 =>
    zl ((v4 * z36) - (v6 * z46)) fun x51 =>
    znl m_h_divisor <|
    zb (f_X3_putCell v1 w.1 (x51 / m_h_divisor) w.2) fun z64 =>
    zl (w.1 + (1 : Int32)) fun x67 =>
    some (0, (x67, z64))
set_option maxHeartbeats 4000000 in
set_option maxRecDepth 100000 in
theorem k_X3_clearCell_L21 {h q_h_rules q_h_codes q_h_volts q_h_grid : Nat} {v1 : Int32} {v3 : Int32} {v4 : Int64} {v6 : Int64} {m_h_unknowns : Int32} {m_h_size : Int32} {m_h_divisor : Int64} {w : Int32 × (Nat → Int64)} {z : Nat × (Int32 × (Nat → Int64))} (C : cx p s m args meth c cX3_clearCell 11 none RX3 D cy A) (hf : f_X3_clearCell_L21 v1 v3 v4 v6 m_h_unknowns m_h_divisor w = some z) (hP : va_P D vwCl [(h, .inr (3, [.ref q_h_rules, .ref q_h_codes, .ref q_h_volts, .ref q_h_grid, .int m_h_unknowns, .int m_h_size, .long m_h_divisor])), (q_h_grid, aJ cy 132 w.2)] H) (hD : va_D A [(h, .inr (3, [.ref q_h_rules, .ref q_h_codes, .ref q_h_volts, .ref q_h_grid, .int m_h_unknowns, .int m_h_size, .long m_h_divisor])), (q_h_grid, aJ cy 132 w.2)]) (hS : va_S A s.heap H locs) (hl : lv_has ls 11 [(0, .ref h), (1, .int v1), (3, .int v3), (4, .long v4), (6, .long v6), (8, .int w.1)]) (hE0 : ∀ (H : Heap) (locs : List Loc) (ls : Array Slot), z.1 = 0 → va_P D vwCl [(h, .inr (3, [.ref q_h_rules, .ref q_h_codes, .ref q_h_volts, .ref q_h_grid, .int m_h_unknowns, .int m_h_size, .long m_h_divisor])), (q_h_grid, aJ cy 132 z.2.2)] H → va_D A [(h, .inr (3, [.ref q_h_rules, .ref q_h_codes, .ref q_h_volts, .ref q_h_grid, .int m_h_unknowns, .int m_h_size, .long m_h_divisor])), (q_h_grid, aJ cy 132 z.2.2)] → va_S A s.heap H locs → lv_has ls 11 [(0, .ref h), (1, .int v1), (3, .int v3), (4, .long v4), (6, .long v6), (8, .int z.2.1)] → W p l e ({ frames := 1, cells := 0, slots := 0, locals := 25 } : Room) s m args below meth c H locs 0 0 Q (F0 m 21 ls [])) (hE1 : ∀ (H : Heap) (locs : List Loc) (ls : Array Slot), z.1 = 1 → va_P D vwCl [(h, .inr (3, [.ref q_h_rules, .ref q_h_codes, .ref q_h_volts, .ref q_h_grid, .int m_h_unknowns, .int m_h_size, .long m_h_divisor])), (q_h_grid, aJ cy 132 z.2.2)] H → va_D A [(h, .inr (3, [.ref q_h_rules, .ref q_h_codes, .ref q_h_volts, .ref q_h_grid, .int m_h_unknowns, .int m_h_size, .long m_h_divisor])), (q_h_grid, aJ cy 132 z.2.2)] → va_S A s.heap H locs → lv_has ls 11 [] → W p l e ({ frames := 1, cells := 0, slots := 0, locals := 25 } : Room) s m args below meth c H locs 0 0 Q (F0 m 73 ls [])) : W p l e ({ frames := 1, cells := 0, slots := 0, locals := 25 } : Room) s m args below meth c H locs 0 0 Q (F0 m 21 ls []) := by
  obtain ⟨hx, hb, hr, hml, hown, hts, hlk, hK, hA, hN⟩ := id C
  unfold f_X3_clearCell_L21 at hf
  refine lv_iload hx hb dX3_clearCell_21 (lv_at hl 5 rfl) ?_
  refine lv_aload_n hx hb dX3_clearCell_23 rfl (lv_at hl 0 rfl) ?_
  refine va_get (D := D) (ci := 3) (v := .int m_h_unknowns) (C := RX3) (T := TX3) (N := 7) hx hb hts ui_X3 hown hK hP 0 rfl rfl 4 (by decide) (hts _ fl_X3_24) (fun _ h9 => h9) rfl dX3_clearCell_24 ?_
  refine lv_icmp_gt (tgt := 73) hx hb dX3_clearCell_27 (by decide) (fun c27 => ?_) (fun c27 => ?_)
  · have hf := zt c27 hf
    obtain rfl := Option.some.inj hf
    exact hE1 _ _ _ rfl hP hD hS (lv_sub hl [] rfl)
  · have hf := zf c27 hf
    refine lv_lload hx hb dX3_clearCell_30 (lv_at hl 3 rfl) ?_
    refine lv_aload_n hx hb dX3_clearCell_32 rfl (lv_at hl 0 rfl) ?_
    refine lv_iload_n hx hb dX3_clearCell_33 rfl (lv_at hl 1 rfl) ?_
    refine lv_iload hx hb dX3_clearCell_34 (lv_at hl 5 rfl) ?_
    obtain ⟨z36, hz36, hf⟩ := zb_of hf
    refine goL (wr := []) (ws' := [(h, .inr (3, [.ref q_h_rules, .ref q_h_codes, .ref q_h_volts, .ref q_h_grid, .int m_h_unknowns, .int m_h_size, .long m_h_divisor])), (q_h_grid, aJ cy 132 w.2)]) C (runV (n := 2) (As := [.int v1, .int w.1]) (rest := [.long v4]) C (c_X3_cell l D cy H.size h q_h_rules q_h_codes q_h_volts q_h_grid v1 w.1 m_h_unknowns m_h_size m_h_divisor w.2 hz36) ml_X3_62 im_X3_cell se_X3_cell ii_X3 cd_X3_cell hd_X3_cell rfl rfl ⟨Nat.le_of_ble_eq_true rfl, Nat.le_of_ble_eq_true rfl⟩ (hP.sub [0, 1] rfl) (hD.sub [0, 1] (by decide) rfl) hS rfl rfl rfl hl.1 rfl (Nat.le_of_ble_eq_true rfl) dX3_clearCell_36) hP hD hS [0, 1] [] [0, 1] rfl rfl (by decide) (by decide) rfl (by decide) (fun H locs hP hD hS => ?_)
    refine lv_lmul hx hb dX3_clearCell_39 ?_
    refine lv_lload hx hb dX3_clearCell_40 (lv_at hl 4 rfl) ?_
    refine lv_aload_n hx hb dX3_clearCell_42 rfl (lv_at hl 0 rfl) ?_
    refine lv_iload_n hx hb dX3_clearCell_43 rfl (lv_at hl 2 rfl) ?_
    refine lv_iload hx hb dX3_clearCell_44 (lv_at hl 5 rfl) ?_
    obtain ⟨z46, hz46, hf⟩ := zb_of hf
    refine goL (wr := []) (ws' := [(h, .inr (3, [.ref q_h_rules, .ref q_h_codes, .ref q_h_volts, .ref q_h_grid, .int m_h_unknowns, .int m_h_size, .long m_h_divisor])), (q_h_grid, aJ cy 132 w.2)]) C (runV (n := 2) (As := [.int v3, .int w.1]) (rest := [.long v6, .long (v4 * z36)]) C (c_X3_cell l D cy H.size h q_h_rules q_h_codes q_h_volts q_h_grid v3 w.1 m_h_unknowns m_h_size m_h_divisor w.2 hz46) ml_X3_62 im_X3_cell se_X3_cell ii_X3 cd_X3_cell hd_X3_cell rfl rfl ⟨Nat.le_of_ble_eq_true rfl, Nat.le_of_ble_eq_true rfl⟩ (hP.sub [0, 1] rfl) (hD.sub [0, 1] (by decide) rfl) hS rfl rfl rfl hl.1 rfl (Nat.le_of_ble_eq_true rfl) dX3_clearCell_46) hP hD hS [0, 1] [] [0, 1] rfl rfl (by decide) (by decide) rfl (by decide) (fun H locs hP hD hS => ?_)
    refine lv_lmul hx hb dX3_clearCell_49 ?_
    refine lv_lsub hx hb dX3_clearCell_50 ?_
    refine lv_topl (fun x51 ex51 => ?_)
    have hf := zl_of hf x51 ex51
    refine lv_lstore (lv' := [(9, .long x51), (0, .ref h), (1, .int v1), (3, .int v3), (4, .long v4), (6, .long v6), (8, .int w.1)]) hx hb dX3_clearCell_51 hl (by decide) rfl (fun ls hl => ?_)
    refine lv_aload_n hx hb dX3_clearCell_53 rfl (lv_at hl 1 rfl) ?_
    refine lv_iload_n hx hb dX3_clearCell_54 rfl (lv_at hl 2 rfl) ?_
    refine lv_iload hx hb dX3_clearCell_55 (lv_at hl 6 rfl) ?_
    refine lv_lload hx hb dX3_clearCell_57 (lv_at hl 0 rfl) ?_
    refine lv_aload_n hx hb dX3_clearCell_59 rfl (lv_at hl 1 rfl) ?_
    refine va_get (D := D) (ci := 3) (v := .long m_h_divisor) (C := RX3) (T := TX3) (N := 7) hx hb hts ui_X3 hown hK hP 0 rfl rfl 6 (by decide) (hts _ fl_X3_31) (fun _ h9 => h9) rfl dX3_clearCell_60 ?_
    obtain ⟨hne, hf⟩ := znl_of hf
    refine lv_ldiv hx hb dX3_clearCell_63 hne ?_
    obtain ⟨z64, hz64, hf⟩ := zb_of hf
    refine goV (wr := []) (ws' := [(h, .inr (3, [.ref q_h_rules, .ref q_h_codes, .ref q_h_volts, .ref q_h_grid, .int m_h_unknowns, .int m_h_size, .long m_h_divisor])), (q_h_grid, aJ cy 132 z64)]) C (runV (n := 3) (As := [.int v1, .int w.1, .long (x51 / m_h_divisor)]) (rest := []) C (c_X3_putCell l D cy H.size h q_h_rules q_h_codes q_h_volts q_h_grid v1 w.1 (x51 / m_h_divisor) m_h_unknowns m_h_size m_h_divisor w.2 hz64) ml_X3_70 im_X3_putCell se_X3_putCell ii_X3 cd_X3_putCell hd_X3_putCell rfl rfl ⟨Nat.le_of_ble_eq_true rfl, Nat.le_of_ble_eq_true rfl⟩ (hP.sub [0, 1] rfl) (hD.sub [0, 1] (by decide) rfl) hS rfl rfl rfl hl.1 rfl (Nat.le_of_ble_eq_true rfl) dX3_clearCell_64) hP hD hS [0, 1] [] [0, 1] rfl rfl (by decide) (by decide) rfl (by decide) (fun H locs hP hD hS => ?_)
    obtain ⟨x67, ex67⟩ : ∃ y : Int32, y = w.1 + (1 : Int32) := ⟨_, rfl⟩
    have hf := zl_of hf x67 ex67
    refine lv_iinc (v := x67) (lv' := [(8, .int x67), (9, .long x51), (0, .ref h), (1, .int v1), (3, .int v3), (4, .long v4), (6, .long v6)]) hx hb dX3_clearCell_67 hl (k := 6) rfl (by rw [ex67]; rfl) (by decide) rfl (fun ls hl => ?_)
    refine lv_goto (tgt := 21) hx hb dX3_clearCell_70 (by decide) ?_
    obtain rfl := Option.some.inj hf
    exact hE0 _ _ _ rfl hP hD hS (lv_sub hl [2, 3, 4, 5, 6, 0] rfl)
set_option maxHeartbeats 4000000 in
set_option maxRecDepth 100000 in
theorem kl_X3_clearCell_L21 {h q_h_rules q_h_codes q_h_volts q_h_grid : Nat} {v1 : Int32} {v3 : Int32} {v4 : Int64} {v6 : Int64} {m_h_unknowns : Int32} {m_h_size : Int32} {m_h_divisor : Int64} (C : cx p s m args meth c cX3_clearCell 11 none RX3 D cy A) : ∀ (n : Nat) (w : Int32 × (Nat → Int64)) (z : Nat × (Int32 × (Nat → Int64))) (H : Heap) (locs : List Loc) (ls : Array Slot), zp (f_X3_clearCell_L21 v1 v3 v4 v6 m_h_unknowns m_h_divisor) n w = some z → va_P D vwCl [(h, .inr (3, [.ref q_h_rules, .ref q_h_codes, .ref q_h_volts, .ref q_h_grid, .int m_h_unknowns, .int m_h_size, .long m_h_divisor])), (q_h_grid, aJ cy 132 w.2)] H → va_D A [(h, .inr (3, [.ref q_h_rules, .ref q_h_codes, .ref q_h_volts, .ref q_h_grid, .int m_h_unknowns, .int m_h_size, .long m_h_divisor])), (q_h_grid, aJ cy 132 w.2)] → va_S A s.heap H locs → lv_has ls 11 [(0, .ref h), (1, .int v1), (3, .int v3), (4, .long v4), (6, .long v6), (8, .int w.1)] → (∀ (H : Heap) (locs : List Loc) (ls : Array Slot), z.1 = 1 → va_P D vwCl [(h, .inr (3, [.ref q_h_rules, .ref q_h_codes, .ref q_h_volts, .ref q_h_grid, .int m_h_unknowns, .int m_h_size, .long m_h_divisor])), (q_h_grid, aJ cy 132 z.2.2)] H → va_D A [(h, .inr (3, [.ref q_h_rules, .ref q_h_codes, .ref q_h_volts, .ref q_h_grid, .int m_h_unknowns, .int m_h_size, .long m_h_divisor])), (q_h_grid, aJ cy 132 z.2.2)] → va_S A s.heap H locs → lv_has ls 11 [] → W p l e ({ frames := 1, cells := 0, slots := 0, locals := 25 } : Room) s m args below meth c H locs 0 0 Q (F0 m 73 ls [])) → W p l e ({ frames := 1, cells := 0, slots := 0, locals := 25 } : Room) s m args below meth c H locs 0 0 Q (F0 m 21 ls []) := by
  intro n
  induction n with
  | zero => intro w z H locs ls hf; cases hf
  | succ n ih =>
    intro w z H locs ls hf hP hD hS hl hE1
    obtain ⟨w1, hw, hd⟩ := zp_s hf
    refine k_X3_clearCell_L21 C hw hP hD hS hl (fun H locs ls h0 hP hD hS hl => ?_) (fun H locs ls h0 hP hD hS hl => ?_)
    · rcases hd with ⟨_, h⟩ | ⟨h, _⟩
      · exact ih _ _ _ _ _ h hP hD hS hl hE1
      · exact absurd h0 h
    · rcases hd with ⟨h, _⟩ | ⟨_, h⟩
      · exact absurd (h.symm.trans h0) (by decide)
      · subst h; exact hE1 _ _ _ h0 hP hD hS hl
def f_X3_clearCell (v1 : Int32) (v2 : Int32) (v3 : Int32) (v4 : Int64) (m_h_unknowns : Int32) (m_h_divisor : Int64) (m_h_grid : Nat → Int64) : Option ((Nat → Int64)) :=
  if (lg_cmp m_h_divisor (0 : Int64)) = 0 then
    some m_h_grid
  else
    zb (f_X3_cell v1 v2 m_h_grid) fun z13 =>
    zb (zp (f_X3_clearCell_L21 v1 v3 v4 z13 m_h_unknowns m_h_divisor) zF ((0 : Int32), m_h_grid)) fun z21 =>
    some z21.2.2
set_option maxHeartbeats 4000000 in
set_option maxRecDepth 100000 in
theorem k_X3_clearCell {h q_h_rules q_h_codes q_h_volts q_h_grid : Nat} {v1 : Int32} {v2 : Int32} {v3 : Int32} {v4 : Int64} {m_h_unknowns : Int32} {m_h_size : Int32} {m_h_divisor : Int64} {m_h_grid : Nat → Int64} {z : (Nat → Int64)} (C : cx p s m args meth c cX3_clearCell 11 none RX3 D cy A) (hf : f_X3_clearCell v1 v2 v3 v4 m_h_unknowns m_h_divisor m_h_grid = some z) (hP : va_P D vwCl [(h, .inr (3, [.ref q_h_rules, .ref q_h_codes, .ref q_h_volts, .ref q_h_grid, .int m_h_unknowns, .int m_h_size, .long m_h_divisor])), (q_h_grid, aJ cy 132 m_h_grid)] H) (hD : va_D A [(h, .inr (3, [.ref q_h_rules, .ref q_h_codes, .ref q_h_volts, .ref q_h_grid, .int m_h_unknowns, .int m_h_size, .long m_h_divisor])), (q_h_grid, aJ cy 132 m_h_grid)]) (hS : va_S A s.heap H locs) (hl : lv_has ls 11 [(0, .ref h), (1, .int v1), (2, .int v2), (3, .int v3), (4, .long v4)]) : W p l e ({ frames := 1, cells := 0, slots := 0, locals := 25 } : Room) s m args below meth c H locs 0 0 (MQ below (kqv D cy [(h, .inr (3, [.ref q_h_rules, .ref q_h_codes, .ref q_h_volts, .ref q_h_grid, .int m_h_unknowns, .int m_h_size, .long m_h_divisor])), (q_h_grid, aJ cy 132 z)] A) args s 0 0 A) (F0 m 0 ls []) := by
  obtain ⟨hx, hb, hr, hml, hown, hts, hlk, hK, hA, hN⟩ := id C
  unfold f_X3_clearCell at hf
  refine lv_aload_n hx hb dX3_clearCell_0 rfl (lv_at hl 0 rfl) ?_
  refine va_get (D := D) (ci := 3) (v := .long m_h_divisor) (C := RX3) (T := TX3) (N := 7) hx hb hts ui_X3 hown hK hP 0 rfl rfl 6 (by decide) (hts _ fl_X3_31) (fun _ h9 => h9) rfl dX3_clearCell_1 ?_
  refine lv_lconst (v := 0) hx hb dX3_clearCell_4 (by decide) ?_
  refine W.lcmp hx hb dX3_clearCell_5 ?_
  refine lv_if_ne (tgt := 10) hx hb dX3_clearCell_6 (by decide) (fun c6 => ?_) (fun c6 => ?_)
  · have hf := zf c6 hf
    refine lv_aload_n hx hb dX3_clearCell_10 rfl (lv_at hl 0 rfl) ?_
    refine lv_iload_n hx hb dX3_clearCell_11 rfl (lv_at hl 1 rfl) ?_
    refine lv_iload_n hx hb dX3_clearCell_12 rfl (lv_at hl 2 rfl) ?_
    obtain ⟨z13, hz13, hf⟩ := zb_of hf
    refine goL (wr := []) (ws' := [(h, .inr (3, [.ref q_h_rules, .ref q_h_codes, .ref q_h_volts, .ref q_h_grid, .int m_h_unknowns, .int m_h_size, .long m_h_divisor])), (q_h_grid, aJ cy 132 m_h_grid)]) C (runV (n := 2) (As := [.int v1, .int v2]) (rest := []) C (c_X3_cell l D cy H.size h q_h_rules q_h_codes q_h_volts q_h_grid v1 v2 m_h_unknowns m_h_size m_h_divisor m_h_grid hz13) ml_X3_62 im_X3_cell se_X3_cell ii_X3 cd_X3_cell hd_X3_cell rfl rfl ⟨Nat.le_of_ble_eq_true rfl, Nat.le_of_ble_eq_true rfl⟩ (hP.sub [0, 1] rfl) (hD.sub [0, 1] (by decide) rfl) hS rfl rfl rfl hl.1 rfl (Nat.le_of_ble_eq_true rfl) dX3_clearCell_13) hP hD hS [0, 1] [] [0, 1] rfl rfl (by decide) (by decide) rfl (by decide) (fun H locs hP hD hS => ?_)
    refine lv_lstore (lv' := [(6, .long z13), (0, .ref h), (1, .int v1), (2, .int v2), (3, .int v3), (4, .long v4)]) hx hb dX3_clearCell_16 hl (by decide) rfl (fun ls hl => ?_)
    refine lv_iconst (v := 0) hx hb dX3_clearCell_18 (by decide) ?_
    refine lv_istore (lv' := [(8, .int (0 : Int32)), (6, .long z13), (0, .ref h), (1, .int v1), (2, .int v2), (3, .int v3), (4, .long v4)]) hx hb dX3_clearCell_19 hl (by decide) rfl (fun ls hl => ?_)
    obtain ⟨z21, hz21, hf⟩ := zb_of hf
    refine kl_X3_clearCell_L21 C _ _ _ _ _ _ hz21 hP hD hS (lv_sub hl [2, 3, 5, 6, 1, 0] rfl) (fun H locs ls h0 hP hD hS hl => ?_)
    obtain rfl := Option.some.inj hf
    exact ret_v C hP hD hS dX3_clearCell_73
  · have hf := zt c6 hf
    obtain rfl := Option.some.inj hf
    exact ret_v C hP hD hS dX3_clearCell_9
set_option maxRecDepth 100000 in
theorem c_X3_clearCell (l : Launch) (D : va_G) (cy : Nat → ClassId) (sz : Nat) (h q_h_rules q_h_codes q_h_volts q_h_grid : Nat) (v1 : Int32) (v2 : Int32) (v3 : Int32) (v4 : Int64) (m_h_unknowns : Int32) (m_h_size : Int32) (m_h_divisor : Int64) (m_h_grid : Nat → Int64) {z : (Nat → Int64)} (hf : f_X3_clearCell v1 v2 v3 v4 m_h_unknowns m_h_divisor m_h_grid = some z) : Met l yX3_clearCell (.code yX3_clearCell cX3_clearCell 11 none :: tb) ({ frames := 1, cells := 0, slots := 0, locals := 25 } : Room) (kp D cy sz [.ref h, .int v1, .int v2, .int v3, .long v4] [(h, .inr (3, [.ref q_h_rules, .ref q_h_codes, .ref q_h_volts, .ref q_h_grid, .int m_h_unknowns, .int m_h_size, .long m_h_divisor])), (q_h_grid, aJ cy 132 m_h_grid)]) (kqv D cy [(h, .inr (3, [.ref q_h_rules, .ref q_h_codes, .ref q_h_volts, .ref q_h_grid, .int m_h_unknowns, .int m_h_size, .long m_h_divisor])), (q_h_grid, aJ cy 132 z)] (va_A [(h, .inr (3, [.ref q_h_rules, .ref q_h_codes, .ref q_h_volts, .ref q_h_grid, .int m_h_unknowns, .int m_h_size, .long m_h_divisor])), (q_h_grid, aJ cy 132 m_h_grid)] sz)) 0 0 (va_A [(h, .inr (3, [.ref q_h_rules, .ref q_h_codes, .ref q_h_volts, .ref q_h_grid, .int m_h_unknowns, .int m_h_size, .long m_h_divisor])), (q_h_grid, aJ cy 132 m_h_grid)] sz) :=
  met_of (fun A => kqv D cy [(h, .inr (3, [.ref q_h_rules, .ref q_h_codes, .ref q_h_volts, .ref q_h_grid, .int m_h_unknowns, .int m_h_size, .long m_h_divisor])), (q_h_grid, aJ cy 132 z)] A) (by decide +kernel) (Nat.le_of_ble_eq_true rfl) (fun p e s m below meth c A ls C hP hD hS hl => k_X3_clearCell C hf hP hD hS hl)
theorem hd_X3_clearCell : yX3_clearCell.cls ≠ "java/lang/invoke/MethodHandle" ∧ yX3_clearCell.cls ≠ "java/lang/invoke/VarHandle" ∧ (parseMethodDescriptor yX3_clearCell.desc).map (fun d => d.parameters.length) = some 4 := by decide +kernel
def f_X3_clearColumn_J34_10 (v5 : Int32) (m_h_grid : Nat → Int64) : Option (Nat × (Int32 × (Nat → Int64))) :=
  zl (v5 + (1 : Int32)) fun x34 =>
  some (0, (x34, m_h_grid))
set_option maxHeartbeats 4000000 in
set_option maxRecDepth 100000 in
theorem k_X3_clearColumn_J34_10 {h q_h_rules q_h_codes q_h_volts q_h_grid : Nat} {v1 : Int32} {v2 : Int32} {v3 : Int64} {v5 : Int32} {m_h_unknowns : Int32} {m_h_size : Int32} {m_h_divisor : Int64} {m_h_grid : Nat → Int64} {z : Nat × (Int32 × (Nat → Int64))} (C : cx p s m args meth c cX3_clearColumn 6 none RX3 D cy A) (hf : f_X3_clearColumn_J34_10 v5 m_h_grid = some z) (hP : va_P D vwCl [(h, .inr (3, [.ref q_h_rules, .ref q_h_codes, .ref q_h_volts, .ref q_h_grid, .int m_h_unknowns, .int m_h_size, .long m_h_divisor])), (q_h_grid, aJ cy 132 m_h_grid)] H) (hD : va_D A [(h, .inr (3, [.ref q_h_rules, .ref q_h_codes, .ref q_h_volts, .ref q_h_grid, .int m_h_unknowns, .int m_h_size, .long m_h_divisor])), (q_h_grid, aJ cy 132 m_h_grid)]) (hS : va_S A s.heap H locs) (hl : lv_has ls 6 [(0, .ref h), (1, .int v1), (2, .int v2), (3, .long v3), (5, .int v5)]) (hE0 : ∀ (H : Heap) (locs : List Loc) (ls : Array Slot), z.1 = 0 → va_P D vwCl [(h, .inr (3, [.ref q_h_rules, .ref q_h_codes, .ref q_h_volts, .ref q_h_grid, .int m_h_unknowns, .int m_h_size, .long m_h_divisor])), (q_h_grid, aJ cy 132 z.2.2)] H → va_D A [(h, .inr (3, [.ref q_h_rules, .ref q_h_codes, .ref q_h_volts, .ref q_h_grid, .int m_h_unknowns, .int m_h_size, .long m_h_divisor])), (q_h_grid, aJ cy 132 z.2.2)] → va_S A s.heap H locs → lv_has ls 6 [(0, .ref h), (1, .int v1), (2, .int v2), (3, .long v3), (5, .int z.2.1)] → W p l e ({ frames := 2, cells := 0, slots := 0, locals := 55 } : Room) s m args below meth c H locs 0 0 Q (F0 m 10 ls [])) (hE1 : ∀ (H : Heap) (locs : List Loc) (ls : Array Slot), z.1 = 1 → va_P D vwCl [(h, .inr (3, [.ref q_h_rules, .ref q_h_codes, .ref q_h_volts, .ref q_h_grid, .int m_h_unknowns, .int m_h_size, .long m_h_divisor])), (q_h_grid, aJ cy 132 z.2.2)] H → va_D A [(h, .inr (3, [.ref q_h_rules, .ref q_h_codes, .ref q_h_volts, .ref q_h_grid, .int m_h_unknowns, .int m_h_size, .long m_h_divisor])), (q_h_grid, aJ cy 132 z.2.2)] → va_S A s.heap H locs → lv_has ls 6 [] → W p l e ({ frames := 2, cells := 0, slots := 0, locals := 55 } : Room) s m args below meth c H locs 0 0 Q (F0 m 40 ls [])) : W p l e ({ frames := 2, cells := 0, slots := 0, locals := 55 } : Room) s m args below meth c H locs 0 0 Q (F0 m 34 ls []) := by
  obtain ⟨hx, hb, hr, hml, hown, hts, hlk, hK, hA, hN⟩ := id C
  unfold f_X3_clearColumn_J34_10 at hf
  obtain ⟨x34, ex34⟩ : ∃ y : Int32, y = v5 + (1 : Int32) := ⟨_, rfl⟩
  have hf := zl_of hf x34 ex34
  refine lv_iinc (v := x34) (lv' := [(5, .int x34), (0, .ref h), (1, .int v1), (2, .int v2), (3, .long v3)]) hx hb dX3_clearColumn_34 hl (k := 4) rfl (by rw [ex34]; rfl) (by decide) rfl (fun ls hl => ?_)
  refine lv_goto (tgt := 10) hx hb dX3_clearColumn_37 (by decide) ?_
  obtain rfl := Option.some.inj hf
  exact hE0 _ _ _ rfl hP hD hS (lv_sub hl [1, 2, 3, 4, 0] rfl)
def f_X3_clearColumn_L10 (v1 : Int32) (v2 : Int32) (v3 : Int64) (m_h_unknowns : Int32) (m_h_size : Int32) (m_h_divisor : Int64) (w : Int32 × (Nat → Int64)) : Option (Nat × (Int32 × (Nat → Int64))) :=
  if m_h_size ≤ w.1 then
    some (1, (w.1, w.2))
  else
    if w.1 = v2 then
      f_X3_clearColumn_J34_10 w.1 w.2
    else
      zb (f_X3_clearCell w.1 v1 v2 v3 m_h_unknowns m_h_divisor w.2) fun z31 =>
      f_X3_clearColumn_J34_10 w.1 z31
set_option maxHeartbeats 4000000 in
set_option maxRecDepth 100000 in
theorem k_X3_clearColumn_L10 {h q_h_rules q_h_codes q_h_volts q_h_grid : Nat} {v1 : Int32} {v2 : Int32} {v3 : Int64} {m_h_unknowns : Int32} {m_h_size : Int32} {m_h_divisor : Int64} {w : Int32 × (Nat → Int64)} {z : Nat × (Int32 × (Nat → Int64))} (C : cx p s m args meth c cX3_clearColumn 6 none RX3 D cy A) (hf : f_X3_clearColumn_L10 v1 v2 v3 m_h_unknowns m_h_size m_h_divisor w = some z) (hP : va_P D vwCl [(h, .inr (3, [.ref q_h_rules, .ref q_h_codes, .ref q_h_volts, .ref q_h_grid, .int m_h_unknowns, .int m_h_size, .long m_h_divisor])), (q_h_grid, aJ cy 132 w.2)] H) (hD : va_D A [(h, .inr (3, [.ref q_h_rules, .ref q_h_codes, .ref q_h_volts, .ref q_h_grid, .int m_h_unknowns, .int m_h_size, .long m_h_divisor])), (q_h_grid, aJ cy 132 w.2)]) (hS : va_S A s.heap H locs) (hl : lv_has ls 6 [(0, .ref h), (1, .int v1), (2, .int v2), (3, .long v3), (5, .int w.1)]) (hE0 : ∀ (H : Heap) (locs : List Loc) (ls : Array Slot), z.1 = 0 → va_P D vwCl [(h, .inr (3, [.ref q_h_rules, .ref q_h_codes, .ref q_h_volts, .ref q_h_grid, .int m_h_unknowns, .int m_h_size, .long m_h_divisor])), (q_h_grid, aJ cy 132 z.2.2)] H → va_D A [(h, .inr (3, [.ref q_h_rules, .ref q_h_codes, .ref q_h_volts, .ref q_h_grid, .int m_h_unknowns, .int m_h_size, .long m_h_divisor])), (q_h_grid, aJ cy 132 z.2.2)] → va_S A s.heap H locs → lv_has ls 6 [(0, .ref h), (1, .int v1), (2, .int v2), (3, .long v3), (5, .int z.2.1)] → W p l e ({ frames := 2, cells := 0, slots := 0, locals := 55 } : Room) s m args below meth c H locs 0 0 Q (F0 m 10 ls [])) (hE1 : ∀ (H : Heap) (locs : List Loc) (ls : Array Slot), z.1 = 1 → va_P D vwCl [(h, .inr (3, [.ref q_h_rules, .ref q_h_codes, .ref q_h_volts, .ref q_h_grid, .int m_h_unknowns, .int m_h_size, .long m_h_divisor])), (q_h_grid, aJ cy 132 z.2.2)] H → va_D A [(h, .inr (3, [.ref q_h_rules, .ref q_h_codes, .ref q_h_volts, .ref q_h_grid, .int m_h_unknowns, .int m_h_size, .long m_h_divisor])), (q_h_grid, aJ cy 132 z.2.2)] → va_S A s.heap H locs → lv_has ls 6 [] → W p l e ({ frames := 2, cells := 0, slots := 0, locals := 55 } : Room) s m args below meth c H locs 0 0 Q (F0 m 40 ls [])) : W p l e ({ frames := 2, cells := 0, slots := 0, locals := 55 } : Room) s m args below meth c H locs 0 0 Q (F0 m 10 ls []) := by
  obtain ⟨hx, hb, hr, hml, hown, hts, hlk, hK, hA, hN⟩ := id C
  unfold f_X3_clearColumn_L10 at hf
  refine lv_iload hx hb dX3_clearColumn_10 (lv_at hl 4 rfl) ?_
  refine lv_aload_n hx hb dX3_clearColumn_12 rfl (lv_at hl 0 rfl) ?_
  refine va_get (D := D) (ci := 3) (v := .int m_h_size) (C := RX3) (T := TX3) (N := 7) hx hb hts ui_X3 hown hK hP 0 rfl rfl 5 (by decide) (hts _ fl_X3_28) (fun _ h9 => h9) rfl dX3_clearColumn_13 ?_
  refine lv_icmp_ge (tgt := 40) hx hb dX3_clearColumn_16 (by decide) (fun c16 => ?_) (fun c16 => ?_)
  · have hf := zt c16 hf
    obtain rfl := Option.some.inj hf
    exact hE1 _ _ _ rfl hP hD hS (lv_sub hl [] rfl)
  · have hf := zf c16 hf
    refine lv_iload hx hb dX3_clearColumn_19 (lv_at hl 4 rfl) ?_
    refine lv_iload_n hx hb dX3_clearColumn_21 rfl (lv_at hl 2 rfl) ?_
    refine lv_icmp_eq (tgt := 34) hx hb dX3_clearColumn_22 (by decide) (fun c22 => ?_) (fun c22 => ?_)
    · have hf := zt c22 hf
      exact k_X3_clearColumn_J34_10 C hf hP hD hS (lv_sub hl [0, 1, 2, 3, 4] rfl) hE0 hE1
    · have hf := zf c22 hf
      refine lv_aload_n hx hb dX3_clearColumn_25 rfl (lv_at hl 0 rfl) ?_
      refine lv_iload hx hb dX3_clearColumn_26 (lv_at hl 4 rfl) ?_
      refine lv_iload_n hx hb dX3_clearColumn_28 rfl (lv_at hl 1 rfl) ?_
      refine lv_iload_n hx hb dX3_clearColumn_29 rfl (lv_at hl 2 rfl) ?_
      refine lv_lload_n hx hb dX3_clearColumn_30 rfl (lv_at hl 3 rfl) ?_
      obtain ⟨z31, hz31, hf⟩ := zb_of hf
      refine goV (wr := []) (ws' := [(h, .inr (3, [.ref q_h_rules, .ref q_h_codes, .ref q_h_volts, .ref q_h_grid, .int m_h_unknowns, .int m_h_size, .long m_h_divisor])), (q_h_grid, aJ cy 132 z31)]) C (runV (n := 4) (As := [.int w.1, .int v1, .int v2, .long v3]) (rest := []) C (c_X3_clearCell l D cy H.size h q_h_rules q_h_codes q_h_volts q_h_grid w.1 v1 v2 v3 m_h_unknowns m_h_size m_h_divisor w.2 hz31) ml_X3_81 im_X3_clearCell se_X3_clearCell ii_X3 cd_X3_clearCell hd_X3_clearCell rfl rfl ⟨Nat.le_of_ble_eq_true rfl, Nat.le_of_ble_eq_true rfl⟩ (hP.sub [0, 1] rfl) (hD.sub [0, 1] (by decide) rfl) hS rfl rfl rfl hl.1 rfl (Nat.le_of_ble_eq_true rfl) dX3_clearColumn_31) hP hD hS [0, 1] [] [0, 1] rfl rfl (by decide) (by decide) rfl (by decide) (fun H locs hP hD hS => ?_)
      exact k_X3_clearColumn_J34_10 C hf hP hD hS (lv_sub hl [0, 1, 2, 3, 4] rfl) hE0 hE1
set_option maxHeartbeats 4000000 in
set_option maxRecDepth 100000 in
theorem kl_X3_clearColumn_L10 {h q_h_rules q_h_codes q_h_volts q_h_grid : Nat} {v1 : Int32} {v2 : Int32} {v3 : Int64} {m_h_unknowns : Int32} {m_h_size : Int32} {m_h_divisor : Int64} (C : cx p s m args meth c cX3_clearColumn 6 none RX3 D cy A) : ∀ (n : Nat) (w : Int32 × (Nat → Int64)) (z : Nat × (Int32 × (Nat → Int64))) (H : Heap) (locs : List Loc) (ls : Array Slot), zp (f_X3_clearColumn_L10 v1 v2 v3 m_h_unknowns m_h_size m_h_divisor) n w = some z → va_P D vwCl [(h, .inr (3, [.ref q_h_rules, .ref q_h_codes, .ref q_h_volts, .ref q_h_grid, .int m_h_unknowns, .int m_h_size, .long m_h_divisor])), (q_h_grid, aJ cy 132 w.2)] H → va_D A [(h, .inr (3, [.ref q_h_rules, .ref q_h_codes, .ref q_h_volts, .ref q_h_grid, .int m_h_unknowns, .int m_h_size, .long m_h_divisor])), (q_h_grid, aJ cy 132 w.2)] → va_S A s.heap H locs → lv_has ls 6 [(0, .ref h), (1, .int v1), (2, .int v2), (3, .long v3), (5, .int w.1)] → (∀ (H : Heap) (locs : List Loc) (ls : Array Slot), z.1 = 1 → va_P D vwCl [(h, .inr (3, [.ref q_h_rules, .ref q_h_codes, .ref q_h_volts, .ref q_h_grid, .int m_h_unknowns, .int m_h_size, .long m_h_divisor])), (q_h_grid, aJ cy 132 z.2.2)] H → va_D A [(h, .inr (3, [.ref q_h_rules, .ref q_h_codes, .ref q_h_volts, .ref q_h_grid, .int m_h_unknowns, .int m_h_size, .long m_h_divisor])), (q_h_grid, aJ cy 132 z.2.2)] → va_S A s.heap H locs → lv_has ls 6 [] → W p l e ({ frames := 2, cells := 0, slots := 0, locals := 55 } : Room) s m args below meth c H locs 0 0 Q (F0 m 40 ls [])) → W p l e ({ frames := 2, cells := 0, slots := 0, locals := 55 } : Room) s m args below meth c H locs 0 0 Q (F0 m 10 ls []) := by
  intro n
  induction n with
  | zero => intro w z H locs ls hf; cases hf
  | succ n ih =>
    intro w z H locs ls hf hP hD hS hl hE1
    obtain ⟨w1, hw, hd⟩ := zp_s hf
    refine k_X3_clearColumn_L10 C hw hP hD hS hl (fun H locs ls h0 hP hD hS hl => ?_) (fun H locs ls h0 hP hD hS hl => ?_)
    · rcases hd with ⟨_, h⟩ | ⟨h, _⟩
      · exact ih _ _ _ _ _ h hP hD hS hl hE1
      · exact absurd h0 h
    · rcases hd with ⟨h, _⟩ | ⟨_, h⟩
      · exact absurd (h.symm.trans h0) (by decide)
      · subst h; exact hE1 _ _ _ h0 hP hD hS hl
def f_X3_clearColumn (v1 : Int32) (v2 : Int32) (m_h_unknowns : Int32) (m_h_size : Int32) (m_h_divisor : Int64) (m_h_grid : Nat → Int64) : Option ((Nat → Int64)) :=
  zb (f_X3_cell v2 v1 m_h_grid) fun z3 =>
  zb (zp (f_X3_clearColumn_L10 v1 v2 z3 m_h_unknowns m_h_size m_h_divisor) zF ((0 : Int32), m_h_grid)) fun z10 =>
  some z10.2.2
set_option maxHeartbeats 4000000 in
set_option maxRecDepth 100000 in
theorem k_X3_clearColumn {h q_h_rules q_h_codes q_h_volts q_h_grid : Nat} {v1 : Int32} {v2 : Int32} {m_h_unknowns : Int32} {m_h_size : Int32} {m_h_divisor : Int64} {m_h_grid : Nat → Int64} {z : (Nat → Int64)} (C : cx p s m args meth c cX3_clearColumn 6 none RX3 D cy A) (hf : f_X3_clearColumn v1 v2 m_h_unknowns m_h_size m_h_divisor m_h_grid = some z) (hP : va_P D vwCl [(h, .inr (3, [.ref q_h_rules, .ref q_h_codes, .ref q_h_volts, .ref q_h_grid, .int m_h_unknowns, .int m_h_size, .long m_h_divisor])), (q_h_grid, aJ cy 132 m_h_grid)] H) (hD : va_D A [(h, .inr (3, [.ref q_h_rules, .ref q_h_codes, .ref q_h_volts, .ref q_h_grid, .int m_h_unknowns, .int m_h_size, .long m_h_divisor])), (q_h_grid, aJ cy 132 m_h_grid)]) (hS : va_S A s.heap H locs) (hl : lv_has ls 6 [(0, .ref h), (1, .int v1), (2, .int v2)]) : W p l e ({ frames := 2, cells := 0, slots := 0, locals := 55 } : Room) s m args below meth c H locs 0 0 (MQ below (kqv D cy [(h, .inr (3, [.ref q_h_rules, .ref q_h_codes, .ref q_h_volts, .ref q_h_grid, .int m_h_unknowns, .int m_h_size, .long m_h_divisor])), (q_h_grid, aJ cy 132 z)] A) args s 0 0 A) (F0 m 0 ls []) := by
  obtain ⟨hx, hb, hr, hml, hown, hts, hlk, hK, hA, hN⟩ := id C
  unfold f_X3_clearColumn at hf
  refine lv_aload_n hx hb dX3_clearColumn_0 rfl (lv_at hl 0 rfl) ?_
  refine lv_iload_n hx hb dX3_clearColumn_1 rfl (lv_at hl 2 rfl) ?_
  refine lv_iload_n hx hb dX3_clearColumn_2 rfl (lv_at hl 1 rfl) ?_
  obtain ⟨z3, hz3, hf⟩ := zb_of hf
  refine goL (wr := []) (ws' := [(h, .inr (3, [.ref q_h_rules, .ref q_h_codes, .ref q_h_volts, .ref q_h_grid, .int m_h_unknowns, .int m_h_size, .long m_h_divisor])), (q_h_grid, aJ cy 132 m_h_grid)]) C (runV (n := 2) (As := [.int v2, .int v1]) (rest := []) C (c_X3_cell l D cy H.size h q_h_rules q_h_codes q_h_volts q_h_grid v2 v1 m_h_unknowns m_h_size m_h_divisor m_h_grid hz3) ml_X3_62 im_X3_cell se_X3_cell ii_X3 cd_X3_cell hd_X3_cell rfl rfl ⟨Nat.le_of_ble_eq_true rfl, Nat.le_of_ble_eq_true rfl⟩ (hP.sub [0, 1] rfl) (hD.sub [0, 1] (by decide) rfl) hS rfl rfl rfl hl.1 rfl (Nat.le_of_ble_eq_true rfl) dX3_clearColumn_3) hP hD hS [0, 1] [] [0, 1] rfl rfl (by decide) (by decide) rfl (by decide) (fun H locs hP hD hS => ?_)
  refine lv_lstore_n (lv' := [(3, .long z3), (0, .ref h), (1, .int v1), (2, .int v2)]) hx hb dX3_clearColumn_6 rfl hl (by decide) rfl (fun ls hl => ?_)
  refine lv_iconst (v := 0) hx hb dX3_clearColumn_7 (by decide) ?_
  refine lv_istore (lv' := [(5, .int (0 : Int32)), (3, .long z3), (0, .ref h), (1, .int v1), (2, .int v2)]) hx hb dX3_clearColumn_8 hl (by decide) rfl (fun ls hl => ?_)
  obtain ⟨z10, hz10, hf⟩ := zb_of hf
  refine kl_X3_clearColumn_L10 C _ _ _ _ _ _ hz10 hP hD hS (lv_sub hl [2, 3, 4, 1, 0] rfl) (fun H locs ls h0 hP hD hS hl => ?_)
  obtain rfl := Option.some.inj hf
  exact ret_v C hP hD hS dX3_clearColumn_40
set_option maxRecDepth 100000 in
theorem c_X3_clearColumn (l : Launch) (D : va_G) (cy : Nat → ClassId) (sz : Nat) (h q_h_rules q_h_codes q_h_volts q_h_grid : Nat) (v1 : Int32) (v2 : Int32) (m_h_unknowns : Int32) (m_h_size : Int32) (m_h_divisor : Int64) (m_h_grid : Nat → Int64) {z : (Nat → Int64)} (hf : f_X3_clearColumn v1 v2 m_h_unknowns m_h_size m_h_divisor m_h_grid = some z) : Met l yX3_clearColumn (.code yX3_clearColumn cX3_clearColumn 6 none :: tb) ({ frames := 2, cells := 0, slots := 0, locals := 55 } : Room) (kp D cy sz [.ref h, .int v1, .int v2] [(h, .inr (3, [.ref q_h_rules, .ref q_h_codes, .ref q_h_volts, .ref q_h_grid, .int m_h_unknowns, .int m_h_size, .long m_h_divisor])), (q_h_grid, aJ cy 132 m_h_grid)]) (kqv D cy [(h, .inr (3, [.ref q_h_rules, .ref q_h_codes, .ref q_h_volts, .ref q_h_grid, .int m_h_unknowns, .int m_h_size, .long m_h_divisor])), (q_h_grid, aJ cy 132 z)] (va_A [(h, .inr (3, [.ref q_h_rules, .ref q_h_codes, .ref q_h_volts, .ref q_h_grid, .int m_h_unknowns, .int m_h_size, .long m_h_divisor])), (q_h_grid, aJ cy 132 m_h_grid)] sz)) 0 0 (va_A [(h, .inr (3, [.ref q_h_rules, .ref q_h_codes, .ref q_h_volts, .ref q_h_grid, .int m_h_unknowns, .int m_h_size, .long m_h_divisor])), (q_h_grid, aJ cy 132 m_h_grid)] sz) :=
  met_of (fun A => kqv D cy [(h, .inr (3, [.ref q_h_rules, .ref q_h_codes, .ref q_h_volts, .ref q_h_grid, .int m_h_unknowns, .int m_h_size, .long m_h_divisor])), (q_h_grid, aJ cy 132 z)] A) (by decide +kernel) (Nat.le_of_ble_eq_true rfl) (fun p e s m below meth c A ls C hP hD hS hl => k_X3_clearColumn C hf hP hD hS hl)
theorem hd_X3_clearColumn : yX3_clearColumn.cls ≠ "java/lang/invoke/MethodHandle" ∧ yX3_clearColumn.cls ≠ "java/lang/invoke/VarHandle" ∧ (parseMethodDescriptor yX3_clearColumn.desc).map (fun d => d.parameters.length) = some 2 := by decide +kernel
def f_X3_solve_J59_13 (v1 : Int32) (v2 : Int32) (m_h_divisor : Int64) (m_h_grid : Nat → Int64) : Option (Nat × (Int32 × Int32 × Int64 × (Nat → Int64))) :=
  zl (v2 + (1 : Int32)) fun x59 =>
  some (0, (v1, x59, m_h_divisor, m_h_grid))
set_option maxHeartbeats 4000000 in
set_option maxRecDepth 100000 in
theorem k_X3_solve_J59_13 {h q_h_rules q_h_codes q_h_volts q_h_grid q_h_rules_misses q_h_rules_resistors : Nat} {v1 : Int32} {v2 : Int32} {m_h_unknowns : Int32} {m_h_size : Int32} {m_h_divisor : Int64} {m_h_rules_bits : Int32} {m_h_rules_unit : Int32} {m_h_rules_offset : Int32} {m_h_rules_lean : Int32} {m_h_rules_ref : Int32} {m_h_rules_top : Int32} {m_h_codes : Nat → Int32} {m_h_volts : Nat → Int32} {m_h_grid : Nat → Int64} {z : Nat × (Int32 × Int32 × Int64 × (Nat → Int64))} (C : cx p s m args meth c cX3_solve 4 (some .int) RX3 D cy A) (hf : f_X3_solve_J59_13 v1 v2 m_h_divisor m_h_grid = some z) (hP : va_P D vwCl [(h, .inr (3, [.ref q_h_rules, .ref q_h_codes, .ref q_h_volts, .ref q_h_grid, .int m_h_unknowns, .int m_h_size, .long m_h_divisor])), (q_h_rules, .inr (5, [.int m_h_rules_bits, .int m_h_rules_unit, .int m_h_rules_offset, .int m_h_rules_lean, .int m_h_rules_ref, .int m_h_rules_top, .ref q_h_rules_misses, .ref q_h_rules_resistors])), (q_h_codes, aI cy 12 m_h_codes), (q_h_volts, aI cy 12 m_h_volts), (q_h_grid, aJ cy 132 m_h_grid)] H) (hD : va_D A [(h, .inr (3, [.ref q_h_rules, .ref q_h_codes, .ref q_h_volts, .ref q_h_grid, .int m_h_unknowns, .int m_h_size, .long m_h_divisor])), (q_h_rules, .inr (5, [.int m_h_rules_bits, .int m_h_rules_unit, .int m_h_rules_offset, .int m_h_rules_lean, .int m_h_rules_ref, .int m_h_rules_top, .ref q_h_rules_misses, .ref q_h_rules_resistors])), (q_h_codes, aI cy 12 m_h_codes), (q_h_volts, aI cy 12 m_h_volts), (q_h_grid, aJ cy 132 m_h_grid)]) (hS : va_S A s.heap H locs) (hl : lv_has ls 4 [(0, .ref h), (1, .int v1), (2, .int v2)]) (hE0 : ∀ (H : Heap) (locs : List Loc) (ls : Array Slot), z.1 = 0 → va_P D vwCl [(h, .inr (3, [.ref q_h_rules, .ref q_h_codes, .ref q_h_volts, .ref q_h_grid, .int m_h_unknowns, .int m_h_size, .long z.2.2.2.1])), (q_h_rules, .inr (5, [.int m_h_rules_bits, .int m_h_rules_unit, .int m_h_rules_offset, .int m_h_rules_lean, .int m_h_rules_ref, .int m_h_rules_top, .ref q_h_rules_misses, .ref q_h_rules_resistors])), (q_h_codes, aI cy 12 m_h_codes), (q_h_volts, aI cy 12 m_h_volts), (q_h_grid, aJ cy 132 z.2.2.2.2)] H → va_D A [(h, .inr (3, [.ref q_h_rules, .ref q_h_codes, .ref q_h_volts, .ref q_h_grid, .int m_h_unknowns, .int m_h_size, .long z.2.2.2.1])), (q_h_rules, .inr (5, [.int m_h_rules_bits, .int m_h_rules_unit, .int m_h_rules_offset, .int m_h_rules_lean, .int m_h_rules_ref, .int m_h_rules_top, .ref q_h_rules_misses, .ref q_h_rules_resistors])), (q_h_codes, aI cy 12 m_h_codes), (q_h_volts, aI cy 12 m_h_volts), (q_h_grid, aJ cy 132 z.2.2.2.2)] → va_S A s.heap H locs → lv_has ls 4 [(0, .ref h), (1, .int z.2.1), (2, .int z.2.2.1)] → W p l e ({ frames := 3, cells := 0, slots := 0, locals := 80 } : Room) s m args below meth c H locs 0 0 Q (F0 m 13 ls [])) (hE1 : ∀ (H : Heap) (locs : List Loc) (ls : Array Slot), z.1 = 1 → va_P D vwCl [(h, .inr (3, [.ref q_h_rules, .ref q_h_codes, .ref q_h_volts, .ref q_h_grid, .int m_h_unknowns, .int m_h_size, .long z.2.2.2.1])), (q_h_rules, .inr (5, [.int m_h_rules_bits, .int m_h_rules_unit, .int m_h_rules_offset, .int m_h_rules_lean, .int m_h_rules_ref, .int m_h_rules_top, .ref q_h_rules_misses, .ref q_h_rules_resistors])), (q_h_codes, aI cy 12 m_h_codes), (q_h_volts, aI cy 12 m_h_volts), (q_h_grid, aJ cy 132 z.2.2.2.2)] H → va_D A [(h, .inr (3, [.ref q_h_rules, .ref q_h_codes, .ref q_h_volts, .ref q_h_grid, .int m_h_unknowns, .int m_h_size, .long z.2.2.2.1])), (q_h_rules, .inr (5, [.int m_h_rules_bits, .int m_h_rules_unit, .int m_h_rules_offset, .int m_h_rules_lean, .int m_h_rules_ref, .int m_h_rules_top, .ref q_h_rules_misses, .ref q_h_rules_resistors])), (q_h_codes, aI cy 12 m_h_codes), (q_h_volts, aI cy 12 m_h_volts), (q_h_grid, aJ cy 132 z.2.2.2.2)] → va_S A s.heap H locs → lv_has ls 4 [(0, .ref h), (1, .int z.2.1)] → W p l e ({ frames := 3, cells := 0, slots := 0, locals := 80 } : Room) s m args below meth c H locs 0 0 Q (F0 m 65 ls [])) : W p l e ({ frames := 3, cells := 0, slots := 0, locals := 80 } : Room) s m args below meth c H locs 0 0 Q (F0 m 59 ls []) := by
  obtain ⟨hx, hb, hr, hml, hown, hts, hlk, hK, hA, hN⟩ := id C
  unfold f_X3_solve_J59_13 at hf
  obtain ⟨x59, ex59⟩ : ∃ y : Int32, y = v2 + (1 : Int32) := ⟨_, rfl⟩
  have hf := zl_of hf x59 ex59
  refine lv_iinc (v := x59) (lv' := [(2, .int x59), (0, .ref h), (1, .int v1)]) hx hb dX3_solve_59 hl (k := 2) rfl (by rw [ex59]; rfl) (by decide) rfl (fun ls hl => ?_)
  refine lv_goto (tgt := 13) hx hb dX3_solve_62 (by decide) ?_
  obtain rfl := Option.some.inj hf
  exact hE0 _ _ _ rfl hP hD hS (lv_sub hl [1, 2, 0] rfl)
def f_X3_solve_L13 (m_h_unknowns : Int32) (m_h_size : Int32) (w : Int32 × Int32 × Int64 × (Nat → Int64)) : Option (Nat × (Int32 × Int32 × Int64 × (Nat → Int64))) :=
  if m_h_unknowns ≤ w.2.1 then
    some (1, (w.1, w.2.1, w.2.2.1, w.2.2.2))
  else
    zb (f_X3_rowWith w.2.1 w.1 m_h_size w.2.2.2) fun z24 =>
    if z24 = (-4 : Int32) then
      f_X3_solve_J59_13 w.1 w.2.1 w.2.2.1 w.2.2.2
    else
      zb (f_X3_swapRows z24 w.1 m_h_unknowns w.2.2.2) fun z37 =>
      zb (f_X3_clearColumn w.2.1 w.1 m_h_unknowns m_h_size w.2.2.1 z37) fun z43 =>
      zb (f_X3_cell w.1 w.2.1 z43) fun z50 =>
      zl (w.1 + (1 : Int32)) fun x56 =>
      f_X3_solve_J59_13 x56 w.2.1 z50 z43
set_option maxHeartbeats 4000000 in
set_option maxRecDepth 100000 in
theorem k_X3_solve_L13 {h q_h_rules q_h_codes q_h_volts q_h_grid q_h_rules_misses q_h_rules_resistors : Nat} {m_h_unknowns : Int32} {m_h_size : Int32} {m_h_rules_bits : Int32} {m_h_rules_unit : Int32} {m_h_rules_offset : Int32} {m_h_rules_lean : Int32} {m_h_rules_ref : Int32} {m_h_rules_top : Int32} {m_h_codes : Nat → Int32} {m_h_volts : Nat → Int32} {w : Int32 × Int32 × Int64 × (Nat → Int64)} {z : Nat × (Int32 × Int32 × Int64 × (Nat → Int64))} (C : cx p s m args meth c cX3_solve 4 (some .int) RX3 D cy A) (hf : f_X3_solve_L13 m_h_unknowns m_h_size w = some z) (hP : va_P D vwCl [(h, .inr (3, [.ref q_h_rules, .ref q_h_codes, .ref q_h_volts, .ref q_h_grid, .int m_h_unknowns, .int m_h_size, .long w.2.2.1])), (q_h_rules, .inr (5, [.int m_h_rules_bits, .int m_h_rules_unit, .int m_h_rules_offset, .int m_h_rules_lean, .int m_h_rules_ref, .int m_h_rules_top, .ref q_h_rules_misses, .ref q_h_rules_resistors])), (q_h_codes, aI cy 12 m_h_codes), (q_h_volts, aI cy 12 m_h_volts), (q_h_grid, aJ cy 132 w.2.2.2)] H) (hD : va_D A [(h, .inr (3, [.ref q_h_rules, .ref q_h_codes, .ref q_h_volts, .ref q_h_grid, .int m_h_unknowns, .int m_h_size, .long w.2.2.1])), (q_h_rules, .inr (5, [.int m_h_rules_bits, .int m_h_rules_unit, .int m_h_rules_offset, .int m_h_rules_lean, .int m_h_rules_ref, .int m_h_rules_top, .ref q_h_rules_misses, .ref q_h_rules_resistors])), (q_h_codes, aI cy 12 m_h_codes), (q_h_volts, aI cy 12 m_h_volts), (q_h_grid, aJ cy 132 w.2.2.2)]) (hS : va_S A s.heap H locs) (hl : lv_has ls 4 [(0, .ref h), (1, .int w.1), (2, .int w.2.1)]) (hE0 : ∀ (H : Heap) (locs : List Loc) (ls : Array Slot), z.1 = 0 → va_P D vwCl [(h, .inr (3, [.ref q_h_rules, .ref q_h_codes, .ref q_h_volts, .ref q_h_grid, .int m_h_unknowns, .int m_h_size, .long z.2.2.2.1])), (q_h_rules, .inr (5, [.int m_h_rules_bits, .int m_h_rules_unit, .int m_h_rules_offset, .int m_h_rules_lean, .int m_h_rules_ref, .int m_h_rules_top, .ref q_h_rules_misses, .ref q_h_rules_resistors])), (q_h_codes, aI cy 12 m_h_codes), (q_h_volts, aI cy 12 m_h_volts), (q_h_grid, aJ cy 132 z.2.2.2.2)] H → va_D A [(h, .inr (3, [.ref q_h_rules, .ref q_h_codes, .ref q_h_volts, .ref q_h_grid, .int m_h_unknowns, .int m_h_size, .long z.2.2.2.1])), (q_h_rules, .inr (5, [.int m_h_rules_bits, .int m_h_rules_unit, .int m_h_rules_offset, .int m_h_rules_lean, .int m_h_rules_ref, .int m_h_rules_top, .ref q_h_rules_misses, .ref q_h_rules_resistors])), (q_h_codes, aI cy 12 m_h_codes), (q_h_volts, aI cy 12 m_h_volts), (q_h_grid, aJ cy 132 z.2.2.2.2)] → va_S A s.heap H locs → lv_has ls 4 [(0, .ref h), (1, .int z.2.1), (2, .int z.2.2.1)] → W p l e ({ frames := 3, cells := 0, slots := 0, locals := 80 } : Room) s m args below meth c H locs 0 0 Q (F0 m 13 ls [])) (hE1 : ∀ (H : Heap) (locs : List Loc) (ls : Array Slot), z.1 = 1 → va_P D vwCl [(h, .inr (3, [.ref q_h_rules, .ref q_h_codes, .ref q_h_volts, .ref q_h_grid, .int m_h_unknowns, .int m_h_size, .long z.2.2.2.1])), (q_h_rules, .inr (5, [.int m_h_rules_bits, .int m_h_rules_unit, .int m_h_rules_offset, .int m_h_rules_lean, .int m_h_rules_ref, .int m_h_rules_top, .ref q_h_rules_misses, .ref q_h_rules_resistors])), (q_h_codes, aI cy 12 m_h_codes), (q_h_volts, aI cy 12 m_h_volts), (q_h_grid, aJ cy 132 z.2.2.2.2)] H → va_D A [(h, .inr (3, [.ref q_h_rules, .ref q_h_codes, .ref q_h_volts, .ref q_h_grid, .int m_h_unknowns, .int m_h_size, .long z.2.2.2.1])), (q_h_rules, .inr (5, [.int m_h_rules_bits, .int m_h_rules_unit, .int m_h_rules_offset, .int m_h_rules_lean, .int m_h_rules_ref, .int m_h_rules_top, .ref q_h_rules_misses, .ref q_h_rules_resistors])), (q_h_codes, aI cy 12 m_h_codes), (q_h_volts, aI cy 12 m_h_volts), (q_h_grid, aJ cy 132 z.2.2.2.2)] → va_S A s.heap H locs → lv_has ls 4 [(0, .ref h), (1, .int z.2.1)] → W p l e ({ frames := 3, cells := 0, slots := 0, locals := 80 } : Room) s m args below meth c H locs 0 0 Q (F0 m 65 ls [])) : W p l e ({ frames := 3, cells := 0, slots := 0, locals := 80 } : Room) s m args below meth c H locs 0 0 Q (F0 m 13 ls []) := by
  obtain ⟨hx, hb, hr, hml, hown, hts, hlk, hK, hA, hN⟩ := id C
  unfold f_X3_solve_L13 at hf
  refine lv_iload_n hx hb dX3_solve_13 rfl (lv_at hl 2 rfl) ?_
  refine lv_aload_n hx hb dX3_solve_14 rfl (lv_at hl 0 rfl) ?_
  refine va_get (D := D) (ci := 3) (v := .int m_h_unknowns) (C := RX3) (T := TX3) (N := 7) hx hb hts ui_X3 hown hK hP 0 rfl rfl 4 (by decide) (hts _ fl_X3_24) (fun _ h9 => h9) rfl dX3_solve_15 ?_
  refine lv_icmp_ge (tgt := 65) hx hb dX3_solve_18 (by decide) (fun c18 => ?_) (fun c18 => ?_)
  · have hf := zt c18 hf
    obtain rfl := Option.some.inj hf
    exact hE1 _ _ _ rfl hP hD hS (lv_sub hl [0, 1] rfl)
  · have hf := zf c18 hf
    refine lv_aload_n hx hb dX3_solve_21 rfl (lv_at hl 0 rfl) ?_
    refine lv_iload_n hx hb dX3_solve_22 rfl (lv_at hl 2 rfl) ?_
    refine lv_iload_n hx hb dX3_solve_23 rfl (lv_at hl 1 rfl) ?_
    obtain ⟨z24, hz24, hf⟩ := zb_of hf
    refine goI (wr := [(q_h_rules, .inr (5, [.int m_h_rules_bits, .int m_h_rules_unit, .int m_h_rules_offset, .int m_h_rules_lean, .int m_h_rules_ref, .int m_h_rules_top, .ref q_h_rules_misses, .ref q_h_rules_resistors])), (q_h_codes, aI cy 12 m_h_codes), (q_h_volts, aI cy 12 m_h_volts)]) (ws' := [(h, .inr (3, [.ref q_h_rules, .ref q_h_codes, .ref q_h_volts, .ref q_h_grid, .int m_h_unknowns, .int m_h_size, .long w.2.2.1])), (q_h_rules, .inr (5, [.int m_h_rules_bits, .int m_h_rules_unit, .int m_h_rules_offset, .int m_h_rules_lean, .int m_h_rules_ref, .int m_h_rules_top, .ref q_h_rules_misses, .ref q_h_rules_resistors])), (q_h_codes, aI cy 12 m_h_codes), (q_h_volts, aI cy 12 m_h_volts), (q_h_grid, aJ cy 132 w.2.2.2)]) C (runV (n := 2) (As := [.int w.2.1, .int w.1]) (rest := []) C (c_X3_rowWith l D cy H.size h q_h_rules q_h_codes q_h_volts q_h_grid w.2.1 w.1 m_h_unknowns m_h_size w.2.2.1 w.2.2.2 hz24) ml_X3_52 im_X3_rowWith se_X3_rowWith ii_X3 cd_X3_rowWith hd_X3_rowWith rfl rfl ⟨Nat.le_of_ble_eq_true rfl, Nat.le_of_ble_eq_true rfl⟩ (hP.sub [0, 4] rfl) (hD.sub [0, 4] (by decide) rfl) hS rfl rfl rfl hl.1 rfl (Nat.le_of_ble_eq_true rfl) dX3_solve_24) hP hD hS [0, 4] [1, 2, 3] [3, 0, 1, 2, 4] rfl rfl (by decide) (by decide) rfl (by decide) (fun H locs hP hD hS => ?_)
    refine lv_istore_n (lv' := [(3, .int z24), (0, .ref h), (1, .int w.1), (2, .int w.2.1)]) hx hb dX3_solve_27 rfl hl (by decide) rfl (fun ls hl => ?_)
    refine lv_iload_n hx hb dX3_solve_28 rfl (lv_at hl 0 rfl) ?_
    refine lv_bipush (v := -4) hx hb dX3_solve_29 (by decide) ?_
    refine lv_icmp_eq (tgt := 59) hx hb dX3_solve_31 (by decide) (fun c31 => ?_) (fun c31 => ?_)
    · have hf := zt c31 hf
      exact k_X3_solve_J59_13 C hf hP hD hS (lv_sub hl [1, 2, 3] rfl) hE0 hE1
    · have hf := zf c31 hf
      refine lv_aload_n hx hb dX3_solve_34 rfl (lv_at hl 1 rfl) ?_
      refine lv_iload_n hx hb dX3_solve_35 rfl (lv_at hl 0 rfl) ?_
      refine lv_iload_n hx hb dX3_solve_36 rfl (lv_at hl 2 rfl) ?_
      obtain ⟨z37, hz37, hf⟩ := zb_of hf
      refine goV (wr := [(q_h_rules, .inr (5, [.int m_h_rules_bits, .int m_h_rules_unit, .int m_h_rules_offset, .int m_h_rules_lean, .int m_h_rules_ref, .int m_h_rules_top, .ref q_h_rules_misses, .ref q_h_rules_resistors])), (q_h_codes, aI cy 12 m_h_codes), (q_h_volts, aI cy 12 m_h_volts)]) (ws' := [(h, .inr (3, [.ref q_h_rules, .ref q_h_codes, .ref q_h_volts, .ref q_h_grid, .int m_h_unknowns, .int m_h_size, .long w.2.2.1])), (q_h_rules, .inr (5, [.int m_h_rules_bits, .int m_h_rules_unit, .int m_h_rules_offset, .int m_h_rules_lean, .int m_h_rules_ref, .int m_h_rules_top, .ref q_h_rules_misses, .ref q_h_rules_resistors])), (q_h_codes, aI cy 12 m_h_codes), (q_h_volts, aI cy 12 m_h_volts), (q_h_grid, aJ cy 132 z37)]) C (runV (n := 2) (As := [.int z24, .int w.1]) (rest := []) C (c_X3_swapRows l D cy H.size h q_h_rules q_h_codes q_h_volts q_h_grid z24 w.1 m_h_unknowns m_h_size w.2.2.1 w.2.2.2 hz37) ml_X3_55 im_X3_swapRows se_X3_swapRows ii_X3 cd_X3_swapRows hd_X3_swapRows rfl rfl ⟨Nat.le_of_ble_eq_true rfl, Nat.le_of_ble_eq_true rfl⟩ (hP.sub [0, 4] rfl) (hD.sub [0, 4] (by decide) rfl) hS rfl rfl rfl hl.1 rfl (Nat.le_of_ble_eq_true rfl) dX3_solve_37) hP hD hS [0, 4] [1, 2, 3] [3, 0, 1, 2, 4] rfl rfl (by decide) (by decide) rfl (by decide) (fun H locs hP hD hS => ?_)
      refine lv_aload_n hx hb dX3_solve_40 rfl (lv_at hl 1 rfl) ?_
      refine lv_iload_n hx hb dX3_solve_41 rfl (lv_at hl 3 rfl) ?_
      refine lv_iload_n hx hb dX3_solve_42 rfl (lv_at hl 2 rfl) ?_
      obtain ⟨z43, hz43, hf⟩ := zb_of hf
      refine goV (wr := [(q_h_rules, .inr (5, [.int m_h_rules_bits, .int m_h_rules_unit, .int m_h_rules_offset, .int m_h_rules_lean, .int m_h_rules_ref, .int m_h_rules_top, .ref q_h_rules_misses, .ref q_h_rules_resistors])), (q_h_codes, aI cy 12 m_h_codes), (q_h_volts, aI cy 12 m_h_volts)]) (ws' := [(h, .inr (3, [.ref q_h_rules, .ref q_h_codes, .ref q_h_volts, .ref q_h_grid, .int m_h_unknowns, .int m_h_size, .long w.2.2.1])), (q_h_rules, .inr (5, [.int m_h_rules_bits, .int m_h_rules_unit, .int m_h_rules_offset, .int m_h_rules_lean, .int m_h_rules_ref, .int m_h_rules_top, .ref q_h_rules_misses, .ref q_h_rules_resistors])), (q_h_codes, aI cy 12 m_h_codes), (q_h_volts, aI cy 12 m_h_volts), (q_h_grid, aJ cy 132 z43)]) C (runV (n := 2) (As := [.int w.2.1, .int w.1]) (rest := []) C (c_X3_clearColumn l D cy H.size h q_h_rules q_h_codes q_h_volts q_h_grid w.2.1 w.1 m_h_unknowns m_h_size w.2.2.1 z37 hz43) ml_X3_59 im_X3_clearColumn se_X3_clearColumn ii_X3 cd_X3_clearColumn hd_X3_clearColumn rfl rfl ⟨Nat.le_of_ble_eq_true rfl, Nat.le_of_ble_eq_true rfl⟩ (hP.sub [0, 4] rfl) (hD.sub [0, 4] (by decide) rfl) hS rfl rfl rfl hl.1 rfl (Nat.le_of_ble_eq_true rfl) dX3_solve_43) hP hD hS [0, 4] [1, 2, 3] [3, 0, 1, 2, 4] rfl rfl (by decide) (by decide) rfl (by decide) (fun H locs hP hD hS => ?_)
      refine lv_aload_n hx hb dX3_solve_46 rfl (lv_at hl 1 rfl) ?_
      refine lv_aload_n hx hb dX3_solve_47 rfl (lv_at hl 1 rfl) ?_
      refine lv_iload_n hx hb dX3_solve_48 rfl (lv_at hl 2 rfl) ?_
      refine lv_iload_n hx hb dX3_solve_49 rfl (lv_at hl 3 rfl) ?_
      obtain ⟨z50, hz50, hf⟩ := zb_of hf
      refine goL (wr := [(q_h_rules, .inr (5, [.int m_h_rules_bits, .int m_h_rules_unit, .int m_h_rules_offset, .int m_h_rules_lean, .int m_h_rules_ref, .int m_h_rules_top, .ref q_h_rules_misses, .ref q_h_rules_resistors])), (q_h_codes, aI cy 12 m_h_codes), (q_h_volts, aI cy 12 m_h_volts)]) (ws' := [(h, .inr (3, [.ref q_h_rules, .ref q_h_codes, .ref q_h_volts, .ref q_h_grid, .int m_h_unknowns, .int m_h_size, .long w.2.2.1])), (q_h_rules, .inr (5, [.int m_h_rules_bits, .int m_h_rules_unit, .int m_h_rules_offset, .int m_h_rules_lean, .int m_h_rules_ref, .int m_h_rules_top, .ref q_h_rules_misses, .ref q_h_rules_resistors])), (q_h_codes, aI cy 12 m_h_codes), (q_h_volts, aI cy 12 m_h_volts), (q_h_grid, aJ cy 132 z43)]) C (runV (n := 2) (As := [.int w.1, .int w.2.1]) (rest := [.ref h]) C (c_X3_cell l D cy H.size h q_h_rules q_h_codes q_h_volts q_h_grid w.1 w.2.1 m_h_unknowns m_h_size w.2.2.1 z43 hz50) ml_X3_62 im_X3_cell se_X3_cell ii_X3 cd_X3_cell hd_X3_cell rfl rfl ⟨Nat.le_of_ble_eq_true rfl, Nat.le_of_ble_eq_true rfl⟩ (hP.sub [0, 4] rfl) (hD.sub [0, 4] (by decide) rfl) hS rfl rfl rfl hl.1 rfl (Nat.le_of_ble_eq_true rfl) dX3_solve_50) hP hD hS [0, 4] [1, 2, 3] [3, 0, 1, 2, 4] rfl rfl (by decide) (by decide) rfl (by decide) (fun H locs hP hD hS => ?_)
      refine va_put (D := D) (ci := 3) (v := .long z50) (ty := .long) (C := RX3) (T := TX3) (N := 7) hx hb hts ui_X3 tyX3 tyX3_ok nmX3 hown hK hP hD hS 0 rfl rfl 6 (by decide) (hts _ fl_X3_31) (fun _ h9 => h9) rfl rfl rfl rfl (Nat.le_of_ble_eq_true rfl) dX3_solve_53 (fun H locs hP hD hS => ?_)
      have hP : va_P D vwCl [(h, .inr (3, [.ref q_h_rules, .ref q_h_codes, .ref q_h_volts, .ref q_h_grid, .int m_h_unknowns, .int m_h_size, .long z50])), (q_h_rules, .inr (5, [.int m_h_rules_bits, .int m_h_rules_unit, .int m_h_rules_offset, .int m_h_rules_lean, .int m_h_rules_ref, .int m_h_rules_top, .ref q_h_rules_misses, .ref q_h_rules_resistors])), (q_h_codes, aI cy 12 m_h_codes), (q_h_volts, aI cy 12 m_h_volts), (q_h_grid, aJ cy 132 z43)] H := hP
      have hD : va_D A [(h, .inr (3, [.ref q_h_rules, .ref q_h_codes, .ref q_h_volts, .ref q_h_grid, .int m_h_unknowns, .int m_h_size, .long z50])), (q_h_rules, .inr (5, [.int m_h_rules_bits, .int m_h_rules_unit, .int m_h_rules_offset, .int m_h_rules_lean, .int m_h_rules_ref, .int m_h_rules_top, .ref q_h_rules_misses, .ref q_h_rules_resistors])), (q_h_codes, aI cy 12 m_h_codes), (q_h_volts, aI cy 12 m_h_volts), (q_h_grid, aJ cy 132 z43)] := hD
      obtain ⟨x56, ex56⟩ : ∃ y : Int32, y = w.1 + (1 : Int32) := ⟨_, rfl⟩
      have hf := zl_of hf x56 ex56
      refine lv_iinc (v := x56) (lv' := [(1, .int x56), (3, .int z24), (0, .ref h), (2, .int w.2.1)]) hx hb dX3_solve_56 hl (k := 2) rfl (by rw [ex56]; rfl) (by decide) rfl (fun ls hl => ?_)
      exact k_X3_solve_J59_13 C hf hP hD hS (lv_sub hl [2, 0, 3] rfl) hE0 hE1
set_option maxHeartbeats 4000000 in
set_option maxRecDepth 100000 in
theorem kl_X3_solve_L13 {h q_h_rules q_h_codes q_h_volts q_h_grid q_h_rules_misses q_h_rules_resistors : Nat} {m_h_unknowns : Int32} {m_h_size : Int32} {m_h_rules_bits : Int32} {m_h_rules_unit : Int32} {m_h_rules_offset : Int32} {m_h_rules_lean : Int32} {m_h_rules_ref : Int32} {m_h_rules_top : Int32} {m_h_codes : Nat → Int32} {m_h_volts : Nat → Int32} (C : cx p s m args meth c cX3_solve 4 (some .int) RX3 D cy A) : ∀ (n : Nat) (w : Int32 × Int32 × Int64 × (Nat → Int64)) (z : Nat × (Int32 × Int32 × Int64 × (Nat → Int64))) (H : Heap) (locs : List Loc) (ls : Array Slot), zp (f_X3_solve_L13 m_h_unknowns m_h_size) n w = some z → va_P D vwCl [(h, .inr (3, [.ref q_h_rules, .ref q_h_codes, .ref q_h_volts, .ref q_h_grid, .int m_h_unknowns, .int m_h_size, .long w.2.2.1])), (q_h_rules, .inr (5, [.int m_h_rules_bits, .int m_h_rules_unit, .int m_h_rules_offset, .int m_h_rules_lean, .int m_h_rules_ref, .int m_h_rules_top, .ref q_h_rules_misses, .ref q_h_rules_resistors])), (q_h_codes, aI cy 12 m_h_codes), (q_h_volts, aI cy 12 m_h_volts), (q_h_grid, aJ cy 132 w.2.2.2)] H → va_D A [(h, .inr (3, [.ref q_h_rules, .ref q_h_codes, .ref q_h_volts, .ref q_h_grid, .int m_h_unknowns, .int m_h_size, .long w.2.2.1])), (q_h_rules, .inr (5, [.int m_h_rules_bits, .int m_h_rules_unit, .int m_h_rules_offset, .int m_h_rules_lean, .int m_h_rules_ref, .int m_h_rules_top, .ref q_h_rules_misses, .ref q_h_rules_resistors])), (q_h_codes, aI cy 12 m_h_codes), (q_h_volts, aI cy 12 m_h_volts), (q_h_grid, aJ cy 132 w.2.2.2)] → va_S A s.heap H locs → lv_has ls 4 [(0, .ref h), (1, .int w.1), (2, .int w.2.1)] → (∀ (H : Heap) (locs : List Loc) (ls : Array Slot), z.1 = 1 → va_P D vwCl [(h, .inr (3, [.ref q_h_rules, .ref q_h_codes, .ref q_h_volts, .ref q_h_grid, .int m_h_unknowns, .int m_h_size, .long z.2.2.2.1])), (q_h_rules, .inr (5, [.int m_h_rules_bits, .int m_h_rules_unit, .int m_h_rules_offset, .int m_h_rules_lean, .int m_h_rules_ref, .int m_h_rules_top, .ref q_h_rules_misses, .ref q_h_rules_resistors])), (q_h_codes, aI cy 12 m_h_codes), (q_h_volts, aI cy 12 m_h_volts), (q_h_grid, aJ cy 132 z.2.2.2.2)] H → va_D A [(h, .inr (3, [.ref q_h_rules, .ref q_h_codes, .ref q_h_volts, .ref q_h_grid, .int m_h_unknowns, .int m_h_size, .long z.2.2.2.1])), (q_h_rules, .inr (5, [.int m_h_rules_bits, .int m_h_rules_unit, .int m_h_rules_offset, .int m_h_rules_lean, .int m_h_rules_ref, .int m_h_rules_top, .ref q_h_rules_misses, .ref q_h_rules_resistors])), (q_h_codes, aI cy 12 m_h_codes), (q_h_volts, aI cy 12 m_h_volts), (q_h_grid, aJ cy 132 z.2.2.2.2)] → va_S A s.heap H locs → lv_has ls 4 [(0, .ref h), (1, .int z.2.1)] → W p l e ({ frames := 3, cells := 0, slots := 0, locals := 80 } : Room) s m args below meth c H locs 0 0 Q (F0 m 65 ls [])) → W p l e ({ frames := 3, cells := 0, slots := 0, locals := 80 } : Room) s m args below meth c H locs 0 0 Q (F0 m 13 ls []) := by
  intro n
  induction n with
  | zero => intro w z H locs ls hf; cases hf
  | succ n ih =>
    intro w z H locs ls hf hP hD hS hl hE1
    obtain ⟨w1, hw, hd⟩ := zp_s hf
    refine k_X3_solve_L13 C hw hP hD hS hl (fun H locs ls h0 hP hD hS hl => ?_) (fun H locs ls h0 hP hD hS hl => ?_)
    · rcases hd with ⟨_, h⟩ | ⟨h, _⟩
      · exact ih _ _ _ _ _ h hP hD hS hl hE1
      · exact absurd h0 h
    · rcases hd with ⟨h, _⟩ | ⟨_, h⟩
      · exact absurd (h.symm.trans h0) (by decide)
      · subst h; exact hE1 _ _ _ h0 hP hD hS hl
def f_X3_solve_L67 (m_h_unknowns : Int32) (m_h_size : Int32) (m_h_grid : Nat → Int64) (w : Int32) : Option (Nat × (Int32)) :=
  if m_h_size ≤ w then
    some (1, w)
  else
    zb (f_X3_cell w m_h_unknowns m_h_grid) fun z81 =>
    if (lg_cmp z81 (0 : Int64)) = 0 then
      zl (w + (1 : Int32)) fun x92 =>
      some (0, x92)
    else
      some (2, w)
set_option maxHeartbeats 4000000 in
set_option maxRecDepth 100000 in
theorem k_X3_solve_L67 {h q_h_rules q_h_codes q_h_volts q_h_grid q_h_rules_misses q_h_rules_resistors : Nat} {v1 : Int32} {m_h_unknowns : Int32} {m_h_size : Int32} {m_h_divisor : Int64} {m_h_rules_bits : Int32} {m_h_rules_unit : Int32} {m_h_rules_offset : Int32} {m_h_rules_lean : Int32} {m_h_rules_ref : Int32} {m_h_rules_top : Int32} {m_h_codes : Nat → Int32} {m_h_volts : Nat → Int32} {m_h_grid : Nat → Int64} {w : Int32} {z : Nat × (Int32)} (C : cx p s m args meth c cX3_solve 4 (some .int) RX3 D cy A) (hf : f_X3_solve_L67 m_h_unknowns m_h_size m_h_grid w = some z) (hP : va_P D vwCl [(h, .inr (3, [.ref q_h_rules, .ref q_h_codes, .ref q_h_volts, .ref q_h_grid, .int m_h_unknowns, .int m_h_size, .long m_h_divisor])), (q_h_rules, .inr (5, [.int m_h_rules_bits, .int m_h_rules_unit, .int m_h_rules_offset, .int m_h_rules_lean, .int m_h_rules_ref, .int m_h_rules_top, .ref q_h_rules_misses, .ref q_h_rules_resistors])), (q_h_codes, aI cy 12 m_h_codes), (q_h_volts, aI cy 12 m_h_volts), (q_h_grid, aJ cy 132 m_h_grid)] H) (hD : va_D A [(h, .inr (3, [.ref q_h_rules, .ref q_h_codes, .ref q_h_volts, .ref q_h_grid, .int m_h_unknowns, .int m_h_size, .long m_h_divisor])), (q_h_rules, .inr (5, [.int m_h_rules_bits, .int m_h_rules_unit, .int m_h_rules_offset, .int m_h_rules_lean, .int m_h_rules_ref, .int m_h_rules_top, .ref q_h_rules_misses, .ref q_h_rules_resistors])), (q_h_codes, aI cy 12 m_h_codes), (q_h_volts, aI cy 12 m_h_volts), (q_h_grid, aJ cy 132 m_h_grid)]) (hS : va_S A s.heap H locs) (hl : lv_has ls 4 [(0, .ref h), (1, .int v1), (2, .int w)]) (hE0 : ∀ (H : Heap) (locs : List Loc) (ls : Array Slot), z.1 = 0 → va_P D vwCl [(h, .inr (3, [.ref q_h_rules, .ref q_h_codes, .ref q_h_volts, .ref q_h_grid, .int m_h_unknowns, .int m_h_size, .long m_h_divisor])), (q_h_rules, .inr (5, [.int m_h_rules_bits, .int m_h_rules_unit, .int m_h_rules_offset, .int m_h_rules_lean, .int m_h_rules_ref, .int m_h_rules_top, .ref q_h_rules_misses, .ref q_h_rules_resistors])), (q_h_codes, aI cy 12 m_h_codes), (q_h_volts, aI cy 12 m_h_volts), (q_h_grid, aJ cy 132 m_h_grid)] H → va_D A [(h, .inr (3, [.ref q_h_rules, .ref q_h_codes, .ref q_h_volts, .ref q_h_grid, .int m_h_unknowns, .int m_h_size, .long m_h_divisor])), (q_h_rules, .inr (5, [.int m_h_rules_bits, .int m_h_rules_unit, .int m_h_rules_offset, .int m_h_rules_lean, .int m_h_rules_ref, .int m_h_rules_top, .ref q_h_rules_misses, .ref q_h_rules_resistors])), (q_h_codes, aI cy 12 m_h_codes), (q_h_volts, aI cy 12 m_h_volts), (q_h_grid, aJ cy 132 m_h_grid)] → va_S A s.heap H locs → lv_has ls 4 [(0, .ref h), (1, .int v1), (2, .int z.2)] → W p l e ({ frames := 3, cells := 0, slots := 0, locals := 80 } : Room) s m args below meth c H locs 0 0 Q (F0 m 67 ls [])) (hE1 : ∀ (H : Heap) (locs : List Loc) (ls : Array Slot), z.1 = 1 → va_P D vwCl [(h, .inr (3, [.ref q_h_rules, .ref q_h_codes, .ref q_h_volts, .ref q_h_grid, .int m_h_unknowns, .int m_h_size, .long m_h_divisor])), (q_h_rules, .inr (5, [.int m_h_rules_bits, .int m_h_rules_unit, .int m_h_rules_offset, .int m_h_rules_lean, .int m_h_rules_ref, .int m_h_rules_top, .ref q_h_rules_misses, .ref q_h_rules_resistors])), (q_h_codes, aI cy 12 m_h_codes), (q_h_volts, aI cy 12 m_h_volts), (q_h_grid, aJ cy 132 m_h_grid)] H → va_D A [(h, .inr (3, [.ref q_h_rules, .ref q_h_codes, .ref q_h_volts, .ref q_h_grid, .int m_h_unknowns, .int m_h_size, .long m_h_divisor])), (q_h_rules, .inr (5, [.int m_h_rules_bits, .int m_h_rules_unit, .int m_h_rules_offset, .int m_h_rules_lean, .int m_h_rules_ref, .int m_h_rules_top, .ref q_h_rules_misses, .ref q_h_rules_resistors])), (q_h_codes, aI cy 12 m_h_codes), (q_h_volts, aI cy 12 m_h_volts), (q_h_grid, aJ cy 132 m_h_grid)] → va_S A s.heap H locs → lv_has ls 4 [(0, .ref h), (1, .int v1)] → W p l e ({ frames := 3, cells := 0, slots := 0, locals := 80 } : Room) s m args below meth c H locs 0 0 Q (F0 m 98 ls [])) (hE2 : ∀ (H : Heap) (locs : List Loc) (ls : Array Slot), z.1 = 2 → va_P D vwCl [(h, .inr (3, [.ref q_h_rules, .ref q_h_codes, .ref q_h_volts, .ref q_h_grid, .int m_h_unknowns, .int m_h_size, .long m_h_divisor])), (q_h_rules, .inr (5, [.int m_h_rules_bits, .int m_h_rules_unit, .int m_h_rules_offset, .int m_h_rules_lean, .int m_h_rules_ref, .int m_h_rules_top, .ref q_h_rules_misses, .ref q_h_rules_resistors])), (q_h_codes, aI cy 12 m_h_codes), (q_h_volts, aI cy 12 m_h_volts), (q_h_grid, aJ cy 132 m_h_grid)] H → va_D A [(h, .inr (3, [.ref q_h_rules, .ref q_h_codes, .ref q_h_volts, .ref q_h_grid, .int m_h_unknowns, .int m_h_size, .long m_h_divisor])), (q_h_rules, .inr (5, [.int m_h_rules_bits, .int m_h_rules_unit, .int m_h_rules_offset, .int m_h_rules_lean, .int m_h_rules_ref, .int m_h_rules_top, .ref q_h_rules_misses, .ref q_h_rules_resistors])), (q_h_codes, aI cy 12 m_h_codes), (q_h_volts, aI cy 12 m_h_volts), (q_h_grid, aJ cy 132 m_h_grid)] → va_S A s.heap H locs → lv_has ls 4 [] → W p l e ({ frames := 3, cells := 0, slots := 0, locals := 80 } : Room) s m args below meth c H locs 0 0 Q (F0 m 89 ls [])) : W p l e ({ frames := 3, cells := 0, slots := 0, locals := 80 } : Room) s m args below meth c H locs 0 0 Q (F0 m 67 ls []) := by
  obtain ⟨hx, hb, hr, hml, hown, hts, hlk, hK, hA, hN⟩ := id C
  unfold f_X3_solve_L67 at hf
  refine lv_iload_n hx hb dX3_solve_67 rfl (lv_at hl 2 rfl) ?_
  refine lv_aload_n hx hb dX3_solve_68 rfl (lv_at hl 0 rfl) ?_
  refine va_get (D := D) (ci := 3) (v := .int m_h_size) (C := RX3) (T := TX3) (N := 7) hx hb hts ui_X3 hown hK hP 0 rfl rfl 5 (by decide) (hts _ fl_X3_28) (fun _ h9 => h9) rfl dX3_solve_69 ?_
  refine lv_icmp_ge (tgt := 98) hx hb dX3_solve_72 (by decide) (fun c72 => ?_) (fun c72 => ?_)
  · have hf := zt c72 hf
    obtain rfl := Option.some.inj hf
    exact hE1 _ _ _ rfl hP hD hS (lv_sub hl [0, 1] rfl)
  · have hf := zf c72 hf
    refine lv_aload_n hx hb dX3_solve_75 rfl (lv_at hl 0 rfl) ?_
    refine lv_iload_n hx hb dX3_solve_76 rfl (lv_at hl 2 rfl) ?_
    refine lv_aload_n hx hb dX3_solve_77 rfl (lv_at hl 0 rfl) ?_
    refine va_get (D := D) (ci := 3) (v := .int m_h_unknowns) (C := RX3) (T := TX3) (N := 7) hx hb hts ui_X3 hown hK hP 0 rfl rfl 4 (by decide) (hts _ fl_X3_24) (fun _ h9 => h9) rfl dX3_solve_78 ?_
    obtain ⟨z81, hz81, hf⟩ := zb_of hf
    refine goL (wr := [(q_h_rules, .inr (5, [.int m_h_rules_bits, .int m_h_rules_unit, .int m_h_rules_offset, .int m_h_rules_lean, .int m_h_rules_ref, .int m_h_rules_top, .ref q_h_rules_misses, .ref q_h_rules_resistors])), (q_h_codes, aI cy 12 m_h_codes), (q_h_volts, aI cy 12 m_h_volts)]) (ws' := [(h, .inr (3, [.ref q_h_rules, .ref q_h_codes, .ref q_h_volts, .ref q_h_grid, .int m_h_unknowns, .int m_h_size, .long m_h_divisor])), (q_h_rules, .inr (5, [.int m_h_rules_bits, .int m_h_rules_unit, .int m_h_rules_offset, .int m_h_rules_lean, .int m_h_rules_ref, .int m_h_rules_top, .ref q_h_rules_misses, .ref q_h_rules_resistors])), (q_h_codes, aI cy 12 m_h_codes), (q_h_volts, aI cy 12 m_h_volts), (q_h_grid, aJ cy 132 m_h_grid)]) C (runV (n := 2) (As := [.int w, .int m_h_unknowns]) (rest := []) C (c_X3_cell l D cy H.size h q_h_rules q_h_codes q_h_volts q_h_grid w m_h_unknowns m_h_unknowns m_h_size m_h_divisor m_h_grid hz81) ml_X3_62 im_X3_cell se_X3_cell ii_X3 cd_X3_cell hd_X3_cell rfl rfl ⟨Nat.le_of_ble_eq_true rfl, Nat.le_of_ble_eq_true rfl⟩ (hP.sub [0, 4] rfl) (hD.sub [0, 4] (by decide) rfl) hS rfl rfl rfl hl.1 rfl (Nat.le_of_ble_eq_true rfl) dX3_solve_81) hP hD hS [0, 4] [1, 2, 3] [3, 0, 1, 2, 4] rfl rfl (by decide) (by decide) rfl (by decide) (fun H locs hP hD hS => ?_)
    refine lv_lconst (v := 0) hx hb dX3_solve_84 (by decide) ?_
    refine W.lcmp hx hb dX3_solve_85 ?_
    refine lv_if_eq (tgt := 92) hx hb dX3_solve_86 (by decide) (fun c86 => ?_) (fun c86 => ?_)
    · have hf := zt c86 hf
      obtain ⟨x92, ex92⟩ : ∃ y : Int32, y = w + (1 : Int32) := ⟨_, rfl⟩
      have hf := zl_of hf x92 ex92
      refine lv_iinc (v := x92) (lv' := [(2, .int x92), (0, .ref h), (1, .int v1)]) hx hb dX3_solve_92 hl (k := 2) rfl (by rw [ex92]; rfl) (by decide) rfl (fun ls hl => ?_)
      refine lv_goto (tgt := 67) hx hb dX3_solve_95 (by decide) ?_
      obtain rfl := Option.some.inj hf
      exact hE0 _ _ _ rfl hP hD hS (lv_sub hl [1, 2, 0] rfl)
    · have hf := zf c86 hf
      obtain rfl := Option.some.inj hf
      exact hE2 _ _ _ rfl hP hD hS (lv_sub hl [] rfl)
set_option maxHeartbeats 4000000 in
set_option maxRecDepth 100000 in
theorem kl_X3_solve_L67 {h q_h_rules q_h_codes q_h_volts q_h_grid q_h_rules_misses q_h_rules_resistors : Nat} {v1 : Int32} {m_h_unknowns : Int32} {m_h_size : Int32} {m_h_divisor : Int64} {m_h_rules_bits : Int32} {m_h_rules_unit : Int32} {m_h_rules_offset : Int32} {m_h_rules_lean : Int32} {m_h_rules_ref : Int32} {m_h_rules_top : Int32} {m_h_codes : Nat → Int32} {m_h_volts : Nat → Int32} {m_h_grid : Nat → Int64} (C : cx p s m args meth c cX3_solve 4 (some .int) RX3 D cy A) : ∀ (n : Nat) (w : Int32) (z : Nat × (Int32)) (H : Heap) (locs : List Loc) (ls : Array Slot), zp (f_X3_solve_L67 m_h_unknowns m_h_size m_h_grid) n w = some z → va_P D vwCl [(h, .inr (3, [.ref q_h_rules, .ref q_h_codes, .ref q_h_volts, .ref q_h_grid, .int m_h_unknowns, .int m_h_size, .long m_h_divisor])), (q_h_rules, .inr (5, [.int m_h_rules_bits, .int m_h_rules_unit, .int m_h_rules_offset, .int m_h_rules_lean, .int m_h_rules_ref, .int m_h_rules_top, .ref q_h_rules_misses, .ref q_h_rules_resistors])), (q_h_codes, aI cy 12 m_h_codes), (q_h_volts, aI cy 12 m_h_volts), (q_h_grid, aJ cy 132 m_h_grid)] H → va_D A [(h, .inr (3, [.ref q_h_rules, .ref q_h_codes, .ref q_h_volts, .ref q_h_grid, .int m_h_unknowns, .int m_h_size, .long m_h_divisor])), (q_h_rules, .inr (5, [.int m_h_rules_bits, .int m_h_rules_unit, .int m_h_rules_offset, .int m_h_rules_lean, .int m_h_rules_ref, .int m_h_rules_top, .ref q_h_rules_misses, .ref q_h_rules_resistors])), (q_h_codes, aI cy 12 m_h_codes), (q_h_volts, aI cy 12 m_h_volts), (q_h_grid, aJ cy 132 m_h_grid)] → va_S A s.heap H locs → lv_has ls 4 [(0, .ref h), (1, .int v1), (2, .int w)] → (∀ (H : Heap) (locs : List Loc) (ls : Array Slot), z.1 = 1 → va_P D vwCl [(h, .inr (3, [.ref q_h_rules, .ref q_h_codes, .ref q_h_volts, .ref q_h_grid, .int m_h_unknowns, .int m_h_size, .long m_h_divisor])), (q_h_rules, .inr (5, [.int m_h_rules_bits, .int m_h_rules_unit, .int m_h_rules_offset, .int m_h_rules_lean, .int m_h_rules_ref, .int m_h_rules_top, .ref q_h_rules_misses, .ref q_h_rules_resistors])), (q_h_codes, aI cy 12 m_h_codes), (q_h_volts, aI cy 12 m_h_volts), (q_h_grid, aJ cy 132 m_h_grid)] H → va_D A [(h, .inr (3, [.ref q_h_rules, .ref q_h_codes, .ref q_h_volts, .ref q_h_grid, .int m_h_unknowns, .int m_h_size, .long m_h_divisor])), (q_h_rules, .inr (5, [.int m_h_rules_bits, .int m_h_rules_unit, .int m_h_rules_offset, .int m_h_rules_lean, .int m_h_rules_ref, .int m_h_rules_top, .ref q_h_rules_misses, .ref q_h_rules_resistors])), (q_h_codes, aI cy 12 m_h_codes), (q_h_volts, aI cy 12 m_h_volts), (q_h_grid, aJ cy 132 m_h_grid)] → va_S A s.heap H locs → lv_has ls 4 [(0, .ref h), (1, .int v1)] → W p l e ({ frames := 3, cells := 0, slots := 0, locals := 80 } : Room) s m args below meth c H locs 0 0 Q (F0 m 98 ls [])) → (∀ (H : Heap) (locs : List Loc) (ls : Array Slot), z.1 = 2 → va_P D vwCl [(h, .inr (3, [.ref q_h_rules, .ref q_h_codes, .ref q_h_volts, .ref q_h_grid, .int m_h_unknowns, .int m_h_size, .long m_h_divisor])), (q_h_rules, .inr (5, [.int m_h_rules_bits, .int m_h_rules_unit, .int m_h_rules_offset, .int m_h_rules_lean, .int m_h_rules_ref, .int m_h_rules_top, .ref q_h_rules_misses, .ref q_h_rules_resistors])), (q_h_codes, aI cy 12 m_h_codes), (q_h_volts, aI cy 12 m_h_volts), (q_h_grid, aJ cy 132 m_h_grid)] H → va_D A [(h, .inr (3, [.ref q_h_rules, .ref q_h_codes, .ref q_h_volts, .ref q_h_grid, .int m_h_unknowns, .int m_h_size, .long m_h_divisor])), (q_h_rules, .inr (5, [.int m_h_rules_bits, .int m_h_rules_unit, .int m_h_rules_offset, .int m_h_rules_lean, .int m_h_rules_ref, .int m_h_rules_top, .ref q_h_rules_misses, .ref q_h_rules_resistors])), (q_h_codes, aI cy 12 m_h_codes), (q_h_volts, aI cy 12 m_h_volts), (q_h_grid, aJ cy 132 m_h_grid)] → va_S A s.heap H locs → lv_has ls 4 [] → W p l e ({ frames := 3, cells := 0, slots := 0, locals := 80 } : Room) s m args below meth c H locs 0 0 Q (F0 m 89 ls [])) → W p l e ({ frames := 3, cells := 0, slots := 0, locals := 80 } : Room) s m args below meth c H locs 0 0 Q (F0 m 67 ls []) := by
  intro n
  induction n with
  | zero => intro w z H locs ls hf; cases hf
  | succ n ih =>
    intro w z H locs ls hf hP hD hS hl hE1 hE2
    obtain ⟨w1, hw, hd⟩ := zp_s hf
    refine k_X3_solve_L67 C hw hP hD hS hl (fun H locs ls h0 hP hD hS hl => ?_) (fun H locs ls h0 hP hD hS hl => ?_) (fun H locs ls h0 hP hD hS hl => ?_)
    · rcases hd with ⟨_, h⟩ | ⟨h, _⟩
      · exact ih _ _ _ _ _ h hP hD hS hl hE1 hE2
      · exact absurd h0 h
    · rcases hd with ⟨h, _⟩ | ⟨_, h⟩
      · exact absurd (h.symm.trans h0) (by decide)
      · subst h; exact hE1 _ _ _ h0 hP hD hS hl
    · rcases hd with ⟨h, _⟩ | ⟨_, h⟩
      · exact absurd (h.symm.trans h0) (by decide)
      · subst h; exact hE2 _ _ _ h0 hP hD hS hl
def f_X3_solve (m_h_size : Int32) (m_h_rules_bits : Int32) (m_h_rules_top : Int32) (m_h_codes : Nat → Int32) (m_h_volts : Nat → Int32) (m_h_grid : Nat → Int64) : Option (Int32 × Int32 × Int64 × (Nat → Int64)) :=
  zb (f_X3_fillGrid m_h_size m_h_rules_bits m_h_rules_top m_h_codes m_h_volts m_h_grid) fun z1 =>
  zb (zp (f_X3_solve_L13 z1.1 m_h_size) zF ((0 : Int32), (0 : Int32), (1 : Int64), z1.2)) fun z13 =>
  zb (zp (f_X3_solve_L67 z1.1 m_h_size z13.2.2.2.2) zF z13.2.1) fun z67 =>
  if z67.1 = 1 then
    if z1.1 ≤ z13.2.1 then
      some ((0 : Int32), z1.1, z13.2.2.2.1, z13.2.2.2.2)
    else
      some ((-4 : Int32), z1.1, z13.2.2.2.1, z13.2.2.2.2)
  else
    some ((-2 : Int32), z1.1, z13.2.2.2.1, z13.2.2.2.2)
set_option maxHeartbeats 4000000 in
set_option maxRecDepth 100000 in
theorem k_X3_solve {h q_h_rules q_h_codes q_h_volts q_h_grid q_h_rules_misses q_h_rules_resistors : Nat} {m_h_unknowns : Int32} {m_h_size : Int32} {m_h_divisor : Int64} {m_h_rules_bits : Int32} {m_h_rules_unit : Int32} {m_h_rules_offset : Int32} {m_h_rules_lean : Int32} {m_h_rules_ref : Int32} {m_h_rules_top : Int32} {m_h_codes : Nat → Int32} {m_h_volts : Nat → Int32} {m_h_grid : Nat → Int64} {z : Int32 × Int32 × Int64 × (Nat → Int64)} (C : cx p s m args meth c cX3_solve 4 (some .int) RX3 D cy A) (hf : f_X3_solve m_h_size m_h_rules_bits m_h_rules_top m_h_codes m_h_volts m_h_grid = some z) (hP : va_P D vwCl [(h, .inr (3, [.ref q_h_rules, .ref q_h_codes, .ref q_h_volts, .ref q_h_grid, .int m_h_unknowns, .int m_h_size, .long m_h_divisor])), (q_h_rules, .inr (5, [.int m_h_rules_bits, .int m_h_rules_unit, .int m_h_rules_offset, .int m_h_rules_lean, .int m_h_rules_ref, .int m_h_rules_top, .ref q_h_rules_misses, .ref q_h_rules_resistors])), (q_h_codes, aI cy 12 m_h_codes), (q_h_volts, aI cy 12 m_h_volts), (q_h_grid, aJ cy 132 m_h_grid)] H) (hD : va_D A [(h, .inr (3, [.ref q_h_rules, .ref q_h_codes, .ref q_h_volts, .ref q_h_grid, .int m_h_unknowns, .int m_h_size, .long m_h_divisor])), (q_h_rules, .inr (5, [.int m_h_rules_bits, .int m_h_rules_unit, .int m_h_rules_offset, .int m_h_rules_lean, .int m_h_rules_ref, .int m_h_rules_top, .ref q_h_rules_misses, .ref q_h_rules_resistors])), (q_h_codes, aI cy 12 m_h_codes), (q_h_volts, aI cy 12 m_h_volts), (q_h_grid, aJ cy 132 m_h_grid)]) (hS : va_S A s.heap H locs) (hl : lv_has ls 4 [(0, .ref h)]) : W p l e ({ frames := 3, cells := 0, slots := 0, locals := 80 } : Room) s m args below meth c H locs 0 0 (MQ below (kqi D cy [(h, .inr (3, [.ref q_h_rules, .ref q_h_codes, .ref q_h_volts, .ref q_h_grid, .int z.2.1, .int m_h_size, .long z.2.2.1])), (q_h_rules, .inr (5, [.int m_h_rules_bits, .int m_h_rules_unit, .int m_h_rules_offset, .int m_h_rules_lean, .int m_h_rules_ref, .int m_h_rules_top, .ref q_h_rules_misses, .ref q_h_rules_resistors])), (q_h_codes, aI cy 12 m_h_codes), (q_h_volts, aI cy 12 m_h_volts), (q_h_grid, aJ cy 132 z.2.2.2)] z.1 A) args s 0 0 A) (F0 m 0 ls []) := by
  obtain ⟨hx, hb, hr, hml, hown, hts, hlk, hK, hA, hN⟩ := id C
  unfold f_X3_solve at hf
  refine lv_aload_n hx hb dX3_solve_0 rfl (lv_at hl 0 rfl) ?_
  obtain ⟨z1, hz1, hf⟩ := zb_of hf
  refine goV (wr := []) (ws' := [(h, .inr (3, [.ref q_h_rules, .ref q_h_codes, .ref q_h_volts, .ref q_h_grid, .int z1.1, .int m_h_size, .long m_h_divisor])), (q_h_rules, .inr (5, [.int m_h_rules_bits, .int m_h_rules_unit, .int m_h_rules_offset, .int m_h_rules_lean, .int m_h_rules_ref, .int m_h_rules_top, .ref q_h_rules_misses, .ref q_h_rules_resistors])), (q_h_codes, aI cy 12 m_h_codes), (q_h_volts, aI cy 12 m_h_volts), (q_h_grid, aJ cy 132 z1.2)]) C (runV (n := 0) (As := []) (rest := []) C (c_X3_fillGrid l D cy H.size h q_h_rules q_h_codes q_h_volts q_h_grid q_h_rules_misses q_h_rules_resistors m_h_unknowns m_h_size m_h_divisor m_h_rules_bits m_h_rules_unit m_h_rules_offset m_h_rules_lean m_h_rules_ref m_h_rules_top m_h_codes m_h_volts m_h_grid hz1) ml_X3_49 im_X3_fillGrid se_X3_fillGrid ii_X3 cd_X3_fillGrid hd_X3_fillGrid rfl rfl ⟨Nat.le_of_ble_eq_true rfl, Nat.le_of_ble_eq_true rfl⟩ (hP.sub [0, 1, 2, 3, 4] rfl) (hD.sub [0, 1, 2, 3, 4] (by decide) rfl) hS rfl rfl rfl hl.1 rfl (Nat.le_of_ble_eq_true rfl) dX3_solve_1) hP hD hS [0, 1, 2, 3, 4] [] [0, 1, 2, 3, 4] rfl rfl (by decide) (by decide) rfl (by decide) (fun H locs hP hD hS => ?_)
  refine lv_iconst (v := 0) hx hb dX3_solve_4 (by decide) ?_
  refine lv_istore_n (lv' := [(1, .int (0 : Int32)), (0, .ref h)]) hx hb dX3_solve_5 rfl hl (by decide) rfl (fun ls hl => ?_)
  refine lv_aload_n hx hb dX3_solve_6 rfl (lv_at hl 1 rfl) ?_
  refine lv_lconst (v := 1) hx hb dX3_solve_7 (by decide) ?_
  refine va_put (D := D) (ci := 3) (v := .long (1 : Int64)) (ty := .long) (C := RX3) (T := TX3) (N := 7) hx hb hts ui_X3 tyX3 tyX3_ok nmX3 hown hK hP hD hS 0 rfl rfl 6 (by decide) (hts _ fl_X3_31) (fun _ h9 => h9) rfl rfl rfl rfl (Nat.le_of_ble_eq_true rfl) dX3_solve_8 (fun H locs hP hD hS => ?_)
  have hP : va_P D vwCl [(h, .inr (3, [.ref q_h_rules, .ref q_h_codes, .ref q_h_volts, .ref q_h_grid, .int z1.1, .int m_h_size, .long (1 : Int64)])), (q_h_rules, .inr (5, [.int m_h_rules_bits, .int m_h_rules_unit, .int m_h_rules_offset, .int m_h_rules_lean, .int m_h_rules_ref, .int m_h_rules_top, .ref q_h_rules_misses, .ref q_h_rules_resistors])), (q_h_codes, aI cy 12 m_h_codes), (q_h_volts, aI cy 12 m_h_volts), (q_h_grid, aJ cy 132 z1.2)] H := hP
  have hD : va_D A [(h, .inr (3, [.ref q_h_rules, .ref q_h_codes, .ref q_h_volts, .ref q_h_grid, .int z1.1, .int m_h_size, .long (1 : Int64)])), (q_h_rules, .inr (5, [.int m_h_rules_bits, .int m_h_rules_unit, .int m_h_rules_offset, .int m_h_rules_lean, .int m_h_rules_ref, .int m_h_rules_top, .ref q_h_rules_misses, .ref q_h_rules_resistors])), (q_h_codes, aI cy 12 m_h_codes), (q_h_volts, aI cy 12 m_h_volts), (q_h_grid, aJ cy 132 z1.2)] := hD
  refine lv_iconst (v := 0) hx hb dX3_solve_11 (by decide) ?_
  refine lv_istore_n (lv' := [(2, .int (0 : Int32)), (1, .int (0 : Int32)), (0, .ref h)]) hx hb dX3_solve_12 rfl hl (by decide) rfl (fun ls hl => ?_)
  obtain ⟨z13, hz13, hf⟩ := zb_of hf
  refine kl_X3_solve_L13 C _ _ _ _ _ _ hz13 hP hD hS (lv_sub hl [2, 1, 0] rfl) (fun H locs ls h0 hP hD hS hl => ?_)
  refine lv_iload_n hx hb dX3_solve_65 rfl (lv_at hl 1 rfl) ?_
  refine lv_istore_n (lv' := [(2, .int z13.2.1), (0, .ref h), (1, .int z13.2.1)]) hx hb dX3_solve_66 rfl hl (by decide) rfl (fun ls hl => ?_)
  obtain ⟨z67, hz67, hf⟩ := zb_of hf
  refine kl_X3_solve_L67 C _ _ _ _ _ _ hz67 hP hD hS (lv_sub hl [1, 2, 0] rfl) (fun H locs ls h0 hP hD hS hl => ?_) (fun H locs ls h0 hP hD hS hl => ?_)
  · have hf := zt h0 hf
    refine lv_iload_n hx hb dX3_solve_98 rfl (lv_at hl 1 rfl) ?_
    refine lv_aload_n hx hb dX3_solve_99 rfl (lv_at hl 0 rfl) ?_
    refine va_get (D := D) (ci := 3) (v := .int z1.1) (C := RX3) (T := TX3) (N := 7) hx hb hts ui_X3 hown hK hP 0 rfl rfl 4 (by decide) (hts _ fl_X3_24) (fun _ h9 => h9) rfl dX3_solve_100 ?_
    refine lv_icmp_ge (tgt := 111) hx hb dX3_solve_103 (by decide) (fun c103 => ?_) (fun c103 => ?_)
    · have hf := zt c103 hf
      refine lv_iconst (v := 0) hx hb dX3_solve_111 (by decide) ?_
      obtain rfl := Option.some.inj hf
      exact ret_i C hP hD hS dX3_solve_112
    · have hf := zf c103 hf
      refine lv_bipush (v := -4) hx hb dX3_solve_106 (by decide) ?_
      refine lv_goto (tgt := 112) hx hb dX3_solve_108 (by decide) ?_
      obtain rfl := Option.some.inj hf
      exact ret_i C hP hD hS dX3_solve_112
  · have hf := zf (by rw [h0]; decide) hf
    refine lv_bipush (v := -2) hx hb dX3_solve_89 (by decide) ?_
    obtain rfl := Option.some.inj hf
    exact ret_i C hP hD hS dX3_solve_91
set_option maxRecDepth 100000 in
theorem c_X3_solve (l : Launch) (D : va_G) (cy : Nat → ClassId) (sz : Nat) (h q_h_rules q_h_codes q_h_volts q_h_grid q_h_rules_misses q_h_rules_resistors : Nat) (m_h_unknowns : Int32) (m_h_size : Int32) (m_h_divisor : Int64) (m_h_rules_bits : Int32) (m_h_rules_unit : Int32) (m_h_rules_offset : Int32) (m_h_rules_lean : Int32) (m_h_rules_ref : Int32) (m_h_rules_top : Int32) (m_h_codes : Nat → Int32) (m_h_volts : Nat → Int32) (m_h_grid : Nat → Int64) {z : Int32 × Int32 × Int64 × (Nat → Int64)} (hf : f_X3_solve m_h_size m_h_rules_bits m_h_rules_top m_h_codes m_h_volts m_h_grid = some z) : Met l yX3_solve (.code yX3_solve cX3_solve 4 (some .int) :: tb) ({ frames := 3, cells := 0, slots := 0, locals := 80 } : Room) (kp D cy sz [.ref h] [(h, .inr (3, [.ref q_h_rules, .ref q_h_codes, .ref q_h_volts, .ref q_h_grid, .int m_h_unknowns, .int m_h_size, .long m_h_divisor])), (q_h_rules, .inr (5, [.int m_h_rules_bits, .int m_h_rules_unit, .int m_h_rules_offset, .int m_h_rules_lean, .int m_h_rules_ref, .int m_h_rules_top, .ref q_h_rules_misses, .ref q_h_rules_resistors])), (q_h_codes, aI cy 12 m_h_codes), (q_h_volts, aI cy 12 m_h_volts), (q_h_grid, aJ cy 132 m_h_grid)]) (kqi D cy [(h, .inr (3, [.ref q_h_rules, .ref q_h_codes, .ref q_h_volts, .ref q_h_grid, .int z.2.1, .int m_h_size, .long z.2.2.1])), (q_h_rules, .inr (5, [.int m_h_rules_bits, .int m_h_rules_unit, .int m_h_rules_offset, .int m_h_rules_lean, .int m_h_rules_ref, .int m_h_rules_top, .ref q_h_rules_misses, .ref q_h_rules_resistors])), (q_h_codes, aI cy 12 m_h_codes), (q_h_volts, aI cy 12 m_h_volts), (q_h_grid, aJ cy 132 z.2.2.2)] z.1 (va_A [(h, .inr (3, [.ref q_h_rules, .ref q_h_codes, .ref q_h_volts, .ref q_h_grid, .int m_h_unknowns, .int m_h_size, .long m_h_divisor])), (q_h_rules, .inr (5, [.int m_h_rules_bits, .int m_h_rules_unit, .int m_h_rules_offset, .int m_h_rules_lean, .int m_h_rules_ref, .int m_h_rules_top, .ref q_h_rules_misses, .ref q_h_rules_resistors])), (q_h_codes, aI cy 12 m_h_codes), (q_h_volts, aI cy 12 m_h_volts), (q_h_grid, aJ cy 132 m_h_grid)] sz)) 0 0 (va_A [(h, .inr (3, [.ref q_h_rules, .ref q_h_codes, .ref q_h_volts, .ref q_h_grid, .int m_h_unknowns, .int m_h_size, .long m_h_divisor])), (q_h_rules, .inr (5, [.int m_h_rules_bits, .int m_h_rules_unit, .int m_h_rules_offset, .int m_h_rules_lean, .int m_h_rules_ref, .int m_h_rules_top, .ref q_h_rules_misses, .ref q_h_rules_resistors])), (q_h_codes, aI cy 12 m_h_codes), (q_h_volts, aI cy 12 m_h_volts), (q_h_grid, aJ cy 132 m_h_grid)] sz) :=
  met_of (fun A => kqi D cy [(h, .inr (3, [.ref q_h_rules, .ref q_h_codes, .ref q_h_volts, .ref q_h_grid, .int z.2.1, .int m_h_size, .long z.2.2.1])), (q_h_rules, .inr (5, [.int m_h_rules_bits, .int m_h_rules_unit, .int m_h_rules_offset, .int m_h_rules_lean, .int m_h_rules_ref, .int m_h_rules_top, .ref q_h_rules_misses, .ref q_h_rules_resistors])), (q_h_codes, aI cy 12 m_h_codes), (q_h_volts, aI cy 12 m_h_volts), (q_h_grid, aJ cy 132 z.2.2.2)] z.1 A) (by decide +kernel) (Nat.le_of_ble_eq_true rfl) (fun p e s m below meth c A ls C hP hD hS hl => k_X3_solve C hf hP hD hS hl)
theorem hd_X3_solve : yX3_solve.cls ≠ "java/lang/invoke/MethodHandle" ∧ yX3_solve.cls ≠ "java/lang/invoke/VarHandle" ∧ (parseMethodDescriptor yX3_solve.desc).map (fun d => d.parameters.length) = some 0 := by decide +kernel
def f_X3_solved (v1 : Int32) (m_h_unknowns : Int32) (m_h_grid : Nat → Int64) : Option (Int64) :=
  zb (f_X3_cell v1 m_h_unknowns m_h_grid) fun z6 =>
  some z6
set_option maxHeartbeats 4000000 in
set_option maxRecDepth 100000 in
theorem k_X3_solved {h q_h_rules q_h_codes q_h_volts q_h_grid : Nat} {v1 : Int32} {m_h_unknowns : Int32} {m_h_size : Int32} {m_h_divisor : Int64} {m_h_grid : Nat → Int64} {z : Int64} (C : cx p s m args meth c cX3_solved 2 (some .long) RX3 D cy A) (hf : f_X3_solved v1 m_h_unknowns m_h_grid = some z) (hP : va_P D vwCl [(h, .inr (3, [.ref q_h_rules, .ref q_h_codes, .ref q_h_volts, .ref q_h_grid, .int m_h_unknowns, .int m_h_size, .long m_h_divisor])), (q_h_grid, aJ cy 132 m_h_grid)] H) (hD : va_D A [(h, .inr (3, [.ref q_h_rules, .ref q_h_codes, .ref q_h_volts, .ref q_h_grid, .int m_h_unknowns, .int m_h_size, .long m_h_divisor])), (q_h_grid, aJ cy 132 m_h_grid)]) (hS : va_S A s.heap H locs) (hl : lv_has ls 2 [(0, .ref h), (1, .int v1)]) : W p l e ({ frames := 1, cells := 0, slots := 0, locals := 23 } : Room) s m args below meth c H locs 0 0 (MQ below (kql D cy [(h, .inr (3, [.ref q_h_rules, .ref q_h_codes, .ref q_h_volts, .ref q_h_grid, .int m_h_unknowns, .int m_h_size, .long m_h_divisor])), (q_h_grid, aJ cy 132 m_h_grid)] z A) args s 0 0 A) (F0 m 0 ls []) := by
  obtain ⟨hx, hb, hr, hml, hown, hts, hlk, hK, hA, hN⟩ := id C
  unfold f_X3_solved at hf
  refine lv_aload_n hx hb dX3_solved_0 rfl (lv_at hl 0 rfl) ?_
  refine lv_iload_n hx hb dX3_solved_1 rfl (lv_at hl 1 rfl) ?_
  refine lv_aload_n hx hb dX3_solved_2 rfl (lv_at hl 0 rfl) ?_
  refine va_get (D := D) (ci := 3) (v := .int m_h_unknowns) (C := RX3) (T := TX3) (N := 7) hx hb hts ui_X3 hown hK hP 0 rfl rfl 4 (by decide) (hts _ fl_X3_24) (fun _ h9 => h9) rfl dX3_solved_3 ?_
  obtain ⟨z6, hz6, hf⟩ := zb_of hf
  refine goL (wr := []) (ws' := [(h, .inr (3, [.ref q_h_rules, .ref q_h_codes, .ref q_h_volts, .ref q_h_grid, .int m_h_unknowns, .int m_h_size, .long m_h_divisor])), (q_h_grid, aJ cy 132 m_h_grid)]) C (runV (n := 2) (As := [.int v1, .int m_h_unknowns]) (rest := []) C (c_X3_cell l D cy H.size h q_h_rules q_h_codes q_h_volts q_h_grid v1 m_h_unknowns m_h_unknowns m_h_size m_h_divisor m_h_grid hz6) ml_X3_62 im_X3_cell se_X3_cell ii_X3 cd_X3_cell hd_X3_cell rfl rfl ⟨Nat.le_of_ble_eq_true rfl, Nat.le_of_ble_eq_true rfl⟩ (hP.sub [0, 1] rfl) (hD.sub [0, 1] (by decide) rfl) hS rfl rfl rfl hl.1 rfl (Nat.le_of_ble_eq_true rfl) dX3_solved_6) hP hD hS [0, 1] [] [0, 1] rfl rfl (by decide) (by decide) rfl (by decide) (fun H locs hP hD hS => ?_)
  obtain rfl := Option.some.inj hf
  exact ret_l C hP hD hS dX3_solved_9
set_option maxRecDepth 100000 in
theorem c_X3_solved (l : Launch) (D : va_G) (cy : Nat → ClassId) (sz : Nat) (h q_h_rules q_h_codes q_h_volts q_h_grid : Nat) (v1 : Int32) (m_h_unknowns : Int32) (m_h_size : Int32) (m_h_divisor : Int64) (m_h_grid : Nat → Int64) {z : Int64} (hf : f_X3_solved v1 m_h_unknowns m_h_grid = some z) : Met l yX3_solved (.code yX3_solved cX3_solved 2 (some .long) :: tb) ({ frames := 1, cells := 0, slots := 0, locals := 23 } : Room) (kp D cy sz [.ref h, .int v1] [(h, .inr (3, [.ref q_h_rules, .ref q_h_codes, .ref q_h_volts, .ref q_h_grid, .int m_h_unknowns, .int m_h_size, .long m_h_divisor])), (q_h_grid, aJ cy 132 m_h_grid)]) (kql D cy [(h, .inr (3, [.ref q_h_rules, .ref q_h_codes, .ref q_h_volts, .ref q_h_grid, .int m_h_unknowns, .int m_h_size, .long m_h_divisor])), (q_h_grid, aJ cy 132 m_h_grid)] z (va_A [(h, .inr (3, [.ref q_h_rules, .ref q_h_codes, .ref q_h_volts, .ref q_h_grid, .int m_h_unknowns, .int m_h_size, .long m_h_divisor])), (q_h_grid, aJ cy 132 m_h_grid)] sz)) 0 0 (va_A [(h, .inr (3, [.ref q_h_rules, .ref q_h_codes, .ref q_h_volts, .ref q_h_grid, .int m_h_unknowns, .int m_h_size, .long m_h_divisor])), (q_h_grid, aJ cy 132 m_h_grid)] sz) :=
  met_of (fun A => kql D cy [(h, .inr (3, [.ref q_h_rules, .ref q_h_codes, .ref q_h_volts, .ref q_h_grid, .int m_h_unknowns, .int m_h_size, .long m_h_divisor])), (q_h_grid, aJ cy 132 m_h_grid)] z A) (by decide +kernel) (Nat.le_of_ble_eq_true rfl) (fun p e s m below meth c A ls C hP hD hS hl => k_X3_solved C hf hP hD hS hl)
theorem hd_X3_solved : yX3_solved.cls ≠ "java/lang/invoke/MethodHandle" ∧ yX3_solved.cls ≠ "java/lang/invoke/VarHandle" ∧ (parseMethodDescriptor yX3_solved.desc).map (fun d => d.parameters.length) = some 1 := by decide +kernel
def f_X3_whole (v1 : Int32) (m_h_unknowns : Int32) (m_h_divisor : Int64) (m_h_grid : Nat → Int64) : Option (Int64) :=
  if (lg_cmp m_h_divisor (0 : Int64)) = 0 then
    some (0 : Int64)
  else
    zb (f_X3_solved v1 m_h_unknowns m_h_grid) fun z15 =>
    znl m_h_divisor <|
    some (z15 / m_h_divisor)
set_option maxHeartbeats 4000000 in
set_option maxRecDepth 100000 in
theorem k_X3_whole {h q_h_rules q_h_codes q_h_volts q_h_grid : Nat} {v1 : Int32} {m_h_unknowns : Int32} {m_h_size : Int32} {m_h_divisor : Int64} {m_h_grid : Nat → Int64} {z : Int64} (C : cx p s m args meth c cX3_whole 2 (some .long) RX3 D cy A) (hf : f_X3_whole v1 m_h_unknowns m_h_divisor m_h_grid = some z) (hP : va_P D vwCl [(h, .inr (3, [.ref q_h_rules, .ref q_h_codes, .ref q_h_volts, .ref q_h_grid, .int m_h_unknowns, .int m_h_size, .long m_h_divisor])), (q_h_grid, aJ cy 132 m_h_grid)] H) (hD : va_D A [(h, .inr (3, [.ref q_h_rules, .ref q_h_codes, .ref q_h_volts, .ref q_h_grid, .int m_h_unknowns, .int m_h_size, .long m_h_divisor])), (q_h_grid, aJ cy 132 m_h_grid)]) (hS : va_S A s.heap H locs) (hl : lv_has ls 2 [(0, .ref h), (1, .int v1)]) : W p l e ({ frames := 2, cells := 0, slots := 0, locals := 44 } : Room) s m args below meth c H locs 0 0 (MQ below (kql D cy [(h, .inr (3, [.ref q_h_rules, .ref q_h_codes, .ref q_h_volts, .ref q_h_grid, .int m_h_unknowns, .int m_h_size, .long m_h_divisor])), (q_h_grid, aJ cy 132 m_h_grid)] z A) args s 0 0 A) (F0 m 0 ls []) := by
  obtain ⟨hx, hb, hr, hml, hown, hts, hlk, hK, hA, hN⟩ := id C
  unfold f_X3_whole at hf
  refine lv_aload_n hx hb dX3_whole_0 rfl (lv_at hl 0 rfl) ?_
  refine va_get (D := D) (ci := 3) (v := .long m_h_divisor) (C := RX3) (T := TX3) (N := 7) hx hb hts ui_X3 hown hK hP 0 rfl rfl 6 (by decide) (hts _ fl_X3_31) (fun _ h9 => h9) rfl dX3_whole_1 ?_
  refine lv_lconst (v := 0) hx hb dX3_whole_4 (by decide) ?_
  refine W.lcmp hx hb dX3_whole_5 ?_
  refine lv_if_ne (tgt := 13) hx hb dX3_whole_6 (by decide) (fun c6 => ?_) (fun c6 => ?_)
  · have hf := zf c6 hf
    refine lv_aload_n hx hb dX3_whole_13 rfl (lv_at hl 0 rfl) ?_
    refine lv_iload_n hx hb dX3_whole_14 rfl (lv_at hl 1 rfl) ?_
    obtain ⟨z15, hz15, hf⟩ := zb_of hf
    refine goL (wr := []) (ws' := [(h, .inr (3, [.ref q_h_rules, .ref q_h_codes, .ref q_h_volts, .ref q_h_grid, .int m_h_unknowns, .int m_h_size, .long m_h_divisor])), (q_h_grid, aJ cy 132 m_h_grid)]) C (runV (n := 1) (As := [.int v1]) (rest := []) C (c_X3_solved l D cy H.size h q_h_rules q_h_codes q_h_volts q_h_grid v1 m_h_unknowns m_h_size m_h_divisor m_h_grid hz15) ml_X3_85 im_X3_solved se_X3_solved ii_X3 cd_X3_solved hd_X3_solved rfl rfl ⟨Nat.le_of_ble_eq_true rfl, Nat.le_of_ble_eq_true rfl⟩ (hP.sub [0, 1] rfl) (hD.sub [0, 1] (by decide) rfl) hS rfl rfl rfl hl.1 rfl (Nat.le_of_ble_eq_true rfl) dX3_whole_15) hP hD hS [0, 1] [] [0, 1] rfl rfl (by decide) (by decide) rfl (by decide) (fun H locs hP hD hS => ?_)
    refine lv_aload_n hx hb dX3_whole_18 rfl (lv_at hl 0 rfl) ?_
    refine va_get (D := D) (ci := 3) (v := .long m_h_divisor) (C := RX3) (T := TX3) (N := 7) hx hb hts ui_X3 hown hK hP 0 rfl rfl 6 (by decide) (hts _ fl_X3_31) (fun _ h9 => h9) rfl dX3_whole_19 ?_
    obtain ⟨hne, hf⟩ := znl_of hf
    refine lv_ldiv hx hb dX3_whole_22 hne ?_
    obtain rfl := Option.some.inj hf
    exact ret_l C hP hD hS dX3_whole_23
  · have hf := zt c6 hf
    refine lv_lconst (v := 0) hx hb dX3_whole_9 (by decide) ?_
    refine lv_goto (tgt := 23) hx hb dX3_whole_10 (by decide) ?_
    obtain rfl := Option.some.inj hf
    exact ret_l C hP hD hS dX3_whole_23
set_option maxRecDepth 100000 in
theorem c_X3_whole (l : Launch) (D : va_G) (cy : Nat → ClassId) (sz : Nat) (h q_h_rules q_h_codes q_h_volts q_h_grid : Nat) (v1 : Int32) (m_h_unknowns : Int32) (m_h_size : Int32) (m_h_divisor : Int64) (m_h_grid : Nat → Int64) {z : Int64} (hf : f_X3_whole v1 m_h_unknowns m_h_divisor m_h_grid = some z) : Met l yX3_whole (.code yX3_whole cX3_whole 2 (some .long) :: tb) ({ frames := 2, cells := 0, slots := 0, locals := 44 } : Room) (kp D cy sz [.ref h, .int v1] [(h, .inr (3, [.ref q_h_rules, .ref q_h_codes, .ref q_h_volts, .ref q_h_grid, .int m_h_unknowns, .int m_h_size, .long m_h_divisor])), (q_h_grid, aJ cy 132 m_h_grid)]) (kql D cy [(h, .inr (3, [.ref q_h_rules, .ref q_h_codes, .ref q_h_volts, .ref q_h_grid, .int m_h_unknowns, .int m_h_size, .long m_h_divisor])), (q_h_grid, aJ cy 132 m_h_grid)] z (va_A [(h, .inr (3, [.ref q_h_rules, .ref q_h_codes, .ref q_h_volts, .ref q_h_grid, .int m_h_unknowns, .int m_h_size, .long m_h_divisor])), (q_h_grid, aJ cy 132 m_h_grid)] sz)) 0 0 (va_A [(h, .inr (3, [.ref q_h_rules, .ref q_h_codes, .ref q_h_volts, .ref q_h_grid, .int m_h_unknowns, .int m_h_size, .long m_h_divisor])), (q_h_grid, aJ cy 132 m_h_grid)] sz) :=
  met_of (fun A => kql D cy [(h, .inr (3, [.ref q_h_rules, .ref q_h_codes, .ref q_h_volts, .ref q_h_grid, .int m_h_unknowns, .int m_h_size, .long m_h_divisor])), (q_h_grid, aJ cy 132 m_h_grid)] z A) (by decide +kernel) (Nat.le_of_ble_eq_true rfl) (fun p e s m below meth c A ls C hP hD hS hl => k_X3_whole C hf hP hD hS hl)
theorem hd_X3_whole : yX3_whole.cls ≠ "java/lang/invoke/MethodHandle" ∧ yX3_whole.cls ≠ "java/lang/invoke/VarHandle" ∧ (parseMethodDescriptor yX3_whole.desc).map (fun d => d.parameters.length) = some 1 := by decide +kernel
def f_X3_newRule (v1 : Int32) (m_h_unknowns : Int32) (m_h_divisor : Int64) (m_h_rules_bits : Int32) (m_h_rules_unit : Int32) (m_h_rules_top : Int32) (m_h_grid : Nat → Int64) : Option (Int64) :=
  if v1 = 0 then
    zb (f_X3_whole (0 : Int32) m_h_unknowns m_h_divisor m_h_grid) fun z6 =>
    some z6
  else
    zb (f_X3_whole v1 m_h_unknowns m_h_divisor m_h_grid) fun z14 =>
    zb (f_X5_evenWeight (v1 - (1 : Int32)) m_h_rules_bits m_h_rules_unit m_h_rules_top) fun z24 =>
    some (z14 - (z24.toInt64))
set_option maxHeartbeats 4000000 in
set_option maxRecDepth 100000 in
theorem k_X3_newRule {h q_h_rules q_h_codes q_h_volts q_h_grid q_h_rules_misses q_h_rules_resistors : Nat} {v1 : Int32} {m_h_unknowns : Int32} {m_h_size : Int32} {m_h_divisor : Int64} {m_h_rules_bits : Int32} {m_h_rules_unit : Int32} {m_h_rules_offset : Int32} {m_h_rules_lean : Int32} {m_h_rules_ref : Int32} {m_h_rules_top : Int32} {m_h_grid : Nat → Int64} {z : Int64} (C : cx p s m args meth c cX3_newRule 2 (some .long) RX3 D cy A) (hf : f_X3_newRule v1 m_h_unknowns m_h_divisor m_h_rules_bits m_h_rules_unit m_h_rules_top m_h_grid = some z) (hP : va_P D vwCl [(h, .inr (3, [.ref q_h_rules, .ref q_h_codes, .ref q_h_volts, .ref q_h_grid, .int m_h_unknowns, .int m_h_size, .long m_h_divisor])), (q_h_rules, .inr (5, [.int m_h_rules_bits, .int m_h_rules_unit, .int m_h_rules_offset, .int m_h_rules_lean, .int m_h_rules_ref, .int m_h_rules_top, .ref q_h_rules_misses, .ref q_h_rules_resistors])), (q_h_grid, aJ cy 132 m_h_grid)] H) (hD : va_D A [(h, .inr (3, [.ref q_h_rules, .ref q_h_codes, .ref q_h_volts, .ref q_h_grid, .int m_h_unknowns, .int m_h_size, .long m_h_divisor])), (q_h_rules, .inr (5, [.int m_h_rules_bits, .int m_h_rules_unit, .int m_h_rules_offset, .int m_h_rules_lean, .int m_h_rules_ref, .int m_h_rules_top, .ref q_h_rules_misses, .ref q_h_rules_resistors])), (q_h_grid, aJ cy 132 m_h_grid)]) (hS : va_S A s.heap H locs) (hl : lv_has ls 2 [(0, .ref h), (1, .int v1)]) : W p l e ({ frames := 3, cells := 0, slots := 0, locals := 65 } : Room) s m args below meth c H locs 0 0 (MQ below (kql D cy [(h, .inr (3, [.ref q_h_rules, .ref q_h_codes, .ref q_h_volts, .ref q_h_grid, .int m_h_unknowns, .int m_h_size, .long m_h_divisor])), (q_h_rules, .inr (5, [.int m_h_rules_bits, .int m_h_rules_unit, .int m_h_rules_offset, .int m_h_rules_lean, .int m_h_rules_ref, .int m_h_rules_top, .ref q_h_rules_misses, .ref q_h_rules_resistors])), (q_h_grid, aJ cy 132 m_h_grid)] z A) args s 0 0 A) (F0 m 0 ls []) := by
  obtain ⟨hx, hb, hr, hml, hown, hts, hlk, hK, hA, hN⟩ := id C
  unfold f_X3_newRule at hf
  refine lv_iload_n hx hb dX3_newRule_0 rfl (lv_at hl 1 rfl) ?_
  refine lv_if_ne (tgt := 12) hx hb dX3_newRule_1 (by decide) (fun c1 => ?_) (fun c1 => ?_)
  · have hf := zf c1 hf
    refine lv_aload_n hx hb dX3_newRule_12 rfl (lv_at hl 0 rfl) ?_
    refine lv_iload_n hx hb dX3_newRule_13 rfl (lv_at hl 1 rfl) ?_
    obtain ⟨z14, hz14, hf⟩ := zb_of hf
    refine goL (wr := [(q_h_rules, .inr (5, [.int m_h_rules_bits, .int m_h_rules_unit, .int m_h_rules_offset, .int m_h_rules_lean, .int m_h_rules_ref, .int m_h_rules_top, .ref q_h_rules_misses, .ref q_h_rules_resistors]))]) (ws' := [(h, .inr (3, [.ref q_h_rules, .ref q_h_codes, .ref q_h_volts, .ref q_h_grid, .int m_h_unknowns, .int m_h_size, .long m_h_divisor])), (q_h_rules, .inr (5, [.int m_h_rules_bits, .int m_h_rules_unit, .int m_h_rules_offset, .int m_h_rules_lean, .int m_h_rules_ref, .int m_h_rules_top, .ref q_h_rules_misses, .ref q_h_rules_resistors])), (q_h_grid, aJ cy 132 m_h_grid)]) C (runV (n := 1) (As := [.int v1]) (rest := []) C (c_X3_whole l D cy H.size h q_h_rules q_h_codes q_h_volts q_h_grid v1 m_h_unknowns m_h_size m_h_divisor m_h_grid hz14) ml_X3_93 im_X3_whole se_X3_whole ii_X3 cd_X3_whole hd_X3_whole rfl rfl ⟨Nat.le_of_ble_eq_true rfl, Nat.le_of_ble_eq_true rfl⟩ (hP.sub [0, 2] rfl) (hD.sub [0, 2] (by decide) rfl) hS rfl rfl rfl hl.1 rfl (Nat.le_of_ble_eq_true rfl) dX3_newRule_14) hP hD hS [0, 2] [1] [1, 0, 2] rfl rfl (by decide) (by decide) rfl (by decide) (fun H locs hP hD hS => ?_)
    refine lv_aload_n hx hb dX3_newRule_17 rfl (lv_at hl 0 rfl) ?_
    refine va_get (D := D) (ci := 3) (v := .ref q_h_rules) (C := RX3) (T := TX3) (N := 7) hx hb hts ui_X3 hown hK hP 0 rfl rfl 0 (by decide) (hts _ fl_X3_35) (fun _ h9 => h9) rfl dX3_newRule_18 ?_
    refine lv_iload_n hx hb dX3_newRule_21 rfl (lv_at hl 1 rfl) ?_
    refine lv_iconst (v := 1) hx hb dX3_newRule_22 (by decide) ?_
    refine lv_isub hx hb dX3_newRule_23 ?_
    obtain ⟨z24, hz24, hf⟩ := zb_of hf
    refine goI (wr := [(h, .inr (3, [.ref q_h_rules, .ref q_h_codes, .ref q_h_volts, .ref q_h_grid, .int m_h_unknowns, .int m_h_size, .long m_h_divisor])), (q_h_grid, aJ cy 132 m_h_grid)]) (ws' := [(h, .inr (3, [.ref q_h_rules, .ref q_h_codes, .ref q_h_volts, .ref q_h_grid, .int m_h_unknowns, .int m_h_size, .long m_h_divisor])), (q_h_rules, .inr (5, [.int m_h_rules_bits, .int m_h_rules_unit, .int m_h_rules_offset, .int m_h_rules_lean, .int m_h_rules_ref, .int m_h_rules_top, .ref q_h_rules_misses, .ref q_h_rules_resistors])), (q_h_grid, aJ cy 132 m_h_grid)]) C (runV (n := 1) (As := [.int (v1 - (1 : Int32))]) (rest := [.long z14]) C (c_X5_evenWeight l D cy H.size q_h_rules q_h_rules_misses q_h_rules_resistors (v1 - (1 : Int32)) m_h_rules_bits m_h_rules_unit m_h_rules_offset m_h_rules_lean m_h_rules_ref m_h_rules_top hz24) ml_X3_103 im_X5_evenWeight se_X5_evenWeight ii_X5 cd_X5_evenWeight hd_X5_evenWeight rfl rfl ⟨Nat.le_of_ble_eq_true rfl, Nat.le_of_ble_eq_true rfl⟩ (hP.sub [1] rfl) (hD.sub [1] (by decide) rfl) hS rfl rfl rfl hl.1 rfl (Nat.le_of_ble_eq_true rfl) dX3_newRule_24) hP hD hS [1] [0, 2] [0, 2, 1] rfl rfl (by decide) (by decide) rfl (by decide) (fun H locs hP hD hS => ?_)
    refine lv_i2l hx hb dX3_newRule_27 rfl ?_
    refine lv_lsub hx hb dX3_newRule_28 ?_
    obtain rfl := Option.some.inj hf
    exact ret_l C hP hD hS dX3_newRule_29
  · have hf := zt c1 hf
    refine lv_aload_n hx hb dX3_newRule_4 rfl (lv_at hl 0 rfl) ?_
    refine lv_iconst (v := 0) hx hb dX3_newRule_5 (by decide) ?_
    obtain ⟨z6, hz6, hf⟩ := zb_of hf
    refine goL (wr := [(q_h_rules, .inr (5, [.int m_h_rules_bits, .int m_h_rules_unit, .int m_h_rules_offset, .int m_h_rules_lean, .int m_h_rules_ref, .int m_h_rules_top, .ref q_h_rules_misses, .ref q_h_rules_resistors]))]) (ws' := [(h, .inr (3, [.ref q_h_rules, .ref q_h_codes, .ref q_h_volts, .ref q_h_grid, .int m_h_unknowns, .int m_h_size, .long m_h_divisor])), (q_h_rules, .inr (5, [.int m_h_rules_bits, .int m_h_rules_unit, .int m_h_rules_offset, .int m_h_rules_lean, .int m_h_rules_ref, .int m_h_rules_top, .ref q_h_rules_misses, .ref q_h_rules_resistors])), (q_h_grid, aJ cy 132 m_h_grid)]) C (runV (n := 1) (As := [.int (0 : Int32)]) (rest := []) C (c_X3_whole l D cy H.size h q_h_rules q_h_codes q_h_volts q_h_grid (0 : Int32) m_h_unknowns m_h_size m_h_divisor m_h_grid hz6) ml_X3_93 im_X3_whole se_X3_whole ii_X3 cd_X3_whole hd_X3_whole rfl rfl ⟨Nat.le_of_ble_eq_true rfl, Nat.le_of_ble_eq_true rfl⟩ (hP.sub [0, 2] rfl) (hD.sub [0, 2] (by decide) rfl) hS rfl rfl rfl hl.1 rfl (Nat.le_of_ble_eq_true rfl) dX3_newRule_6) hP hD hS [0, 2] [1] [1, 0, 2] rfl rfl (by decide) (by decide) rfl (by decide) (fun H locs hP hD hS => ?_)
    refine lv_goto (tgt := 29) hx hb dX3_newRule_9 (by decide) ?_
    obtain rfl := Option.some.inj hf
    exact ret_l C hP hD hS dX3_newRule_29
set_option maxRecDepth 100000 in
theorem c_X3_newRule (l : Launch) (D : va_G) (cy : Nat → ClassId) (sz : Nat) (h q_h_rules q_h_codes q_h_volts q_h_grid q_h_rules_misses q_h_rules_resistors : Nat) (v1 : Int32) (m_h_unknowns : Int32) (m_h_size : Int32) (m_h_divisor : Int64) (m_h_rules_bits : Int32) (m_h_rules_unit : Int32) (m_h_rules_offset : Int32) (m_h_rules_lean : Int32) (m_h_rules_ref : Int32) (m_h_rules_top : Int32) (m_h_grid : Nat → Int64) {z : Int64} (hf : f_X3_newRule v1 m_h_unknowns m_h_divisor m_h_rules_bits m_h_rules_unit m_h_rules_top m_h_grid = some z) : Met l yX3_newRule (.code yX3_newRule cX3_newRule 2 (some .long) :: tb) ({ frames := 3, cells := 0, slots := 0, locals := 65 } : Room) (kp D cy sz [.ref h, .int v1] [(h, .inr (3, [.ref q_h_rules, .ref q_h_codes, .ref q_h_volts, .ref q_h_grid, .int m_h_unknowns, .int m_h_size, .long m_h_divisor])), (q_h_rules, .inr (5, [.int m_h_rules_bits, .int m_h_rules_unit, .int m_h_rules_offset, .int m_h_rules_lean, .int m_h_rules_ref, .int m_h_rules_top, .ref q_h_rules_misses, .ref q_h_rules_resistors])), (q_h_grid, aJ cy 132 m_h_grid)]) (kql D cy [(h, .inr (3, [.ref q_h_rules, .ref q_h_codes, .ref q_h_volts, .ref q_h_grid, .int m_h_unknowns, .int m_h_size, .long m_h_divisor])), (q_h_rules, .inr (5, [.int m_h_rules_bits, .int m_h_rules_unit, .int m_h_rules_offset, .int m_h_rules_lean, .int m_h_rules_ref, .int m_h_rules_top, .ref q_h_rules_misses, .ref q_h_rules_resistors])), (q_h_grid, aJ cy 132 m_h_grid)] z (va_A [(h, .inr (3, [.ref q_h_rules, .ref q_h_codes, .ref q_h_volts, .ref q_h_grid, .int m_h_unknowns, .int m_h_size, .long m_h_divisor])), (q_h_rules, .inr (5, [.int m_h_rules_bits, .int m_h_rules_unit, .int m_h_rules_offset, .int m_h_rules_lean, .int m_h_rules_ref, .int m_h_rules_top, .ref q_h_rules_misses, .ref q_h_rules_resistors])), (q_h_grid, aJ cy 132 m_h_grid)] sz)) 0 0 (va_A [(h, .inr (3, [.ref q_h_rules, .ref q_h_codes, .ref q_h_volts, .ref q_h_grid, .int m_h_unknowns, .int m_h_size, .long m_h_divisor])), (q_h_rules, .inr (5, [.int m_h_rules_bits, .int m_h_rules_unit, .int m_h_rules_offset, .int m_h_rules_lean, .int m_h_rules_ref, .int m_h_rules_top, .ref q_h_rules_misses, .ref q_h_rules_resistors])), (q_h_grid, aJ cy 132 m_h_grid)] sz) :=
  met_of (fun A => kql D cy [(h, .inr (3, [.ref q_h_rules, .ref q_h_codes, .ref q_h_volts, .ref q_h_grid, .int m_h_unknowns, .int m_h_size, .long m_h_divisor])), (q_h_rules, .inr (5, [.int m_h_rules_bits, .int m_h_rules_unit, .int m_h_rules_offset, .int m_h_rules_lean, .int m_h_rules_ref, .int m_h_rules_top, .ref q_h_rules_misses, .ref q_h_rules_resistors])), (q_h_grid, aJ cy 132 m_h_grid)] z A) (by decide +kernel) (Nat.le_of_ble_eq_true rfl) (fun p e s m below meth c A ls C hP hD hS hl => k_X3_newRule C hf hP hD hS hl)
theorem hd_X3_newRule : yX3_newRule.cls ≠ "java/lang/invoke/MethodHandle" ∧ yX3_newRule.cls ≠ "java/lang/invoke/VarHandle" ∧ (parseMethodDescriptor yX3_newRule.desc).map (fun d => d.parameters.length) = some 1 := by decide +kernel
def f_X3_isWithinBounds_J16 (v1 : Int32) (m_h_unknowns : Int32) (m_h_divisor : Int64) (m_h_rules_bits : Int32) (m_h_rules_unit : Int32) (m_h_rules_top : Int32) (m_h_grid : Nat → Int64) : Option (Int32) :=
  zb (f_X3_newRule v1 m_h_unknowns m_h_divisor m_h_rules_bits m_h_rules_unit m_h_rules_top m_h_grid) fun z18 =>
  if (lg_cmp z18 (-999 : Int64)) < 0 then
    some (0 : Int32)
  else
    if 0 < (lg_cmp z18 (999 : Int64)) then
      some (0 : Int32)
    else
      some (1 : Int32)
set_option maxHeartbeats 4000000 in
set_option maxRecDepth 100000 in
theorem k_X3_isWithinBounds_J16 {h q_h_rules q_h_codes q_h_volts q_h_grid q_h_rules_misses q_h_rules_resistors : Nat} {v1 : Int32} {m_h_unknowns : Int32} {m_h_size : Int32} {m_h_divisor : Int64} {m_h_rules_bits : Int32} {m_h_rules_unit : Int32} {m_h_rules_offset : Int32} {m_h_rules_lean : Int32} {m_h_rules_ref : Int32} {m_h_rules_top : Int32} {m_h_grid : Nat → Int64} {z : Int32} (C : cx p s m args meth c cX3_isWithinBounds 4 (some .boolean) RX3 D cy A) (hf : f_X3_isWithinBounds_J16 v1 m_h_unknowns m_h_divisor m_h_rules_bits m_h_rules_unit m_h_rules_top m_h_grid = some z) (hP : va_P D vwCl [(h, .inr (3, [.ref q_h_rules, .ref q_h_codes, .ref q_h_volts, .ref q_h_grid, .int m_h_unknowns, .int m_h_size, .long m_h_divisor])), (q_h_rules, .inr (5, [.int m_h_rules_bits, .int m_h_rules_unit, .int m_h_rules_offset, .int m_h_rules_lean, .int m_h_rules_ref, .int m_h_rules_top, .ref q_h_rules_misses, .ref q_h_rules_resistors])), (q_h_grid, aJ cy 132 m_h_grid)] H) (hD : va_D A [(h, .inr (3, [.ref q_h_rules, .ref q_h_codes, .ref q_h_volts, .ref q_h_grid, .int m_h_unknowns, .int m_h_size, .long m_h_divisor])), (q_h_rules, .inr (5, [.int m_h_rules_bits, .int m_h_rules_unit, .int m_h_rules_offset, .int m_h_rules_lean, .int m_h_rules_ref, .int m_h_rules_top, .ref q_h_rules_misses, .ref q_h_rules_resistors])), (q_h_grid, aJ cy 132 m_h_grid)]) (hS : va_S A s.heap H locs) (hl : lv_has ls 4 [(0, .ref h), (1, .int v1)]) : W p l e ({ frames := 4, cells := 0, slots := 0, locals := 86 } : Room) s m args below meth c H locs 0 0 (MQ below (kqz D cy [(h, .inr (3, [.ref q_h_rules, .ref q_h_codes, .ref q_h_volts, .ref q_h_grid, .int m_h_unknowns, .int m_h_size, .long m_h_divisor])), (q_h_rules, .inr (5, [.int m_h_rules_bits, .int m_h_rules_unit, .int m_h_rules_offset, .int m_h_rules_lean, .int m_h_rules_ref, .int m_h_rules_top, .ref q_h_rules_misses, .ref q_h_rules_resistors])), (q_h_grid, aJ cy 132 m_h_grid)] z A) args s 0 0 A) (F0 m 16 ls []) := by
  obtain ⟨hx, hb, hr, hml, hown, hts, hlk, hK, hA, hN⟩ := id C
  unfold f_X3_isWithinBounds_J16 at hf
  refine lv_aload_n hx hb dX3_isWithinBounds_16 rfl (lv_at hl 0 rfl) ?_
  refine lv_iload_n hx hb dX3_isWithinBounds_17 rfl (lv_at hl 1 rfl) ?_
  obtain ⟨z18, hz18, hf⟩ := zb_of hf
  refine goL (wr := []) (ws' := [(h, .inr (3, [.ref q_h_rules, .ref q_h_codes, .ref q_h_volts, .ref q_h_grid, .int m_h_unknowns, .int m_h_size, .long m_h_divisor])), (q_h_rules, .inr (5, [.int m_h_rules_bits, .int m_h_rules_unit, .int m_h_rules_offset, .int m_h_rules_lean, .int m_h_rules_ref, .int m_h_rules_top, .ref q_h_rules_misses, .ref q_h_rules_resistors])), (q_h_grid, aJ cy 132 m_h_grid)]) C (runV (n := 1) (As := [.int v1]) (rest := []) C (c_X3_newRule l D cy H.size h q_h_rules q_h_codes q_h_volts q_h_grid q_h_rules_misses q_h_rules_resistors v1 m_h_unknowns m_h_size m_h_divisor m_h_rules_bits m_h_rules_unit m_h_rules_offset m_h_rules_lean m_h_rules_ref m_h_rules_top m_h_grid hz18) ml_X3_96 im_X3_newRule se_X3_newRule ii_X3 cd_X3_newRule hd_X3_newRule rfl rfl ⟨Nat.le_of_ble_eq_true rfl, Nat.le_of_ble_eq_true rfl⟩ (hP.sub [0, 1, 2] rfl) (hD.sub [0, 1, 2] (by decide) rfl) hS rfl rfl rfl hl.1 rfl (Nat.le_of_ble_eq_true rfl) dX3_isWithinBounds_18) hP hD hS [0, 1, 2] [] [0, 1, 2] rfl rfl (by decide) (by decide) rfl (by decide) (fun H locs hP hD hS => ?_)
  refine lv_lstore_n (lv' := [(2, .long z18), (0, .ref h), (1, .int v1)]) hx hb dX3_isWithinBounds_21 rfl hl (by decide) rfl (fun ls hl => ?_)
  refine lv_lload_n hx hb dX3_isWithinBounds_22 rfl (lv_at hl 0 rfl) ?_
  refine lv_ldc2 hx hb hown (hts _ kl_X3_99) dX3_isWithinBounds_23 ?_
  refine W.lcmp hx hb dX3_isWithinBounds_26 ?_
  refine lv_if_lt (tgt := 42) hx hb dX3_isWithinBounds_27 (by decide) (fun c27 => ?_) (fun c27 => ?_)
  · have hf := zt c27 hf
    refine lv_iconst (v := 0) hx hb dX3_isWithinBounds_42 (by decide) ?_
    obtain rfl := Option.some.inj hf
    exact ret_z (v := (0 : Int32)) C rfl hP hD hS dX3_isWithinBounds_43
  · have hf := zf c27 hf
    refine lv_lload_n hx hb dX3_isWithinBounds_30 rfl (lv_at hl 0 rfl) ?_
    refine lv_ldc2 hx hb hown (hts _ kl_X3_101) dX3_isWithinBounds_31 ?_
    refine W.lcmp hx hb dX3_isWithinBounds_34 ?_
    refine lv_if_gt (tgt := 42) hx hb dX3_isWithinBounds_35 (by decide) (fun c35 => ?_) (fun c35 => ?_)
    · have hf := zt c35 hf
      refine lv_iconst (v := 0) hx hb dX3_isWithinBounds_42 (by decide) ?_
      obtain rfl := Option.some.inj hf
      exact ret_z (v := (0 : Int32)) C rfl hP hD hS dX3_isWithinBounds_43
    · have hf := zf c35 hf
      refine lv_iconst (v := 1) hx hb dX3_isWithinBounds_38 (by decide) ?_
      refine lv_goto (tgt := 43) hx hb dX3_isWithinBounds_39 (by decide) ?_
      obtain rfl := Option.some.inj hf
      exact ret_z (v := (1 : Int32)) C rfl hP hD hS dX3_isWithinBounds_43
def f_X3_isWithinBounds (v1 : Int32) (m_h_unknowns : Int32) (m_h_divisor : Int64) (m_h_rules_bits : Int32) (m_h_rules_unit : Int32) (m_h_rules_top : Int32) (m_h_grid : Nat → Int64) : Option (Int32) :=
  if v1 ≤ 0 then
    f_X3_isWithinBounds_J16 v1 m_h_unknowns m_h_divisor m_h_rules_bits m_h_rules_unit m_h_rules_top m_h_grid
  else
    zb (f_X3_whole v1 m_h_unknowns m_h_divisor m_h_grid) fun z6 =>
    if 0 ≤ (lg_cmp z6 (0 : Int64)) then
      f_X3_isWithinBounds_J16 v1 m_h_unknowns m_h_divisor m_h_rules_bits m_h_rules_unit m_h_rules_top m_h_grid
    else
      some (0 : Int32)
set_option maxHeartbeats 4000000 in
set_option maxRecDepth 100000 in
theorem k_X3_isWithinBounds {h q_h_rules q_h_codes q_h_volts q_h_grid q_h_rules_misses q_h_rules_resistors : Nat} {v1 : Int32} {m_h_unknowns : Int32} {m_h_size : Int32} {m_h_divisor : Int64} {m_h_rules_bits : Int32} {m_h_rules_unit : Int32} {m_h_rules_offset : Int32} {m_h_rules_lean : Int32} {m_h_rules_ref : Int32} {m_h_rules_top : Int32} {m_h_grid : Nat → Int64} {z : Int32} (C : cx p s m args meth c cX3_isWithinBounds 4 (some .boolean) RX3 D cy A) (hf : f_X3_isWithinBounds v1 m_h_unknowns m_h_divisor m_h_rules_bits m_h_rules_unit m_h_rules_top m_h_grid = some z) (hP : va_P D vwCl [(h, .inr (3, [.ref q_h_rules, .ref q_h_codes, .ref q_h_volts, .ref q_h_grid, .int m_h_unknowns, .int m_h_size, .long m_h_divisor])), (q_h_rules, .inr (5, [.int m_h_rules_bits, .int m_h_rules_unit, .int m_h_rules_offset, .int m_h_rules_lean, .int m_h_rules_ref, .int m_h_rules_top, .ref q_h_rules_misses, .ref q_h_rules_resistors])), (q_h_grid, aJ cy 132 m_h_grid)] H) (hD : va_D A [(h, .inr (3, [.ref q_h_rules, .ref q_h_codes, .ref q_h_volts, .ref q_h_grid, .int m_h_unknowns, .int m_h_size, .long m_h_divisor])), (q_h_rules, .inr (5, [.int m_h_rules_bits, .int m_h_rules_unit, .int m_h_rules_offset, .int m_h_rules_lean, .int m_h_rules_ref, .int m_h_rules_top, .ref q_h_rules_misses, .ref q_h_rules_resistors])), (q_h_grid, aJ cy 132 m_h_grid)]) (hS : va_S A s.heap H locs) (hl : lv_has ls 4 [(0, .ref h), (1, .int v1)]) : W p l e ({ frames := 4, cells := 0, slots := 0, locals := 86 } : Room) s m args below meth c H locs 0 0 (MQ below (kqz D cy [(h, .inr (3, [.ref q_h_rules, .ref q_h_codes, .ref q_h_volts, .ref q_h_grid, .int m_h_unknowns, .int m_h_size, .long m_h_divisor])), (q_h_rules, .inr (5, [.int m_h_rules_bits, .int m_h_rules_unit, .int m_h_rules_offset, .int m_h_rules_lean, .int m_h_rules_ref, .int m_h_rules_top, .ref q_h_rules_misses, .ref q_h_rules_resistors])), (q_h_grid, aJ cy 132 m_h_grid)] z A) args s 0 0 A) (F0 m 0 ls []) := by
  obtain ⟨hx, hb, hr, hml, hown, hts, hlk, hK, hA, hN⟩ := id C
  unfold f_X3_isWithinBounds at hf
  refine lv_iload_n hx hb dX3_isWithinBounds_0 rfl (lv_at hl 1 rfl) ?_
  refine lv_if_le (tgt := 16) hx hb dX3_isWithinBounds_1 (by decide) (fun c1 => ?_) (fun c1 => ?_)
  · have hf := zt c1 hf
    exact k_X3_isWithinBounds_J16 C hf hP hD hS (lv_sub hl [0, 1] rfl)
  · have hf := zf c1 hf
    refine lv_aload_n hx hb dX3_isWithinBounds_4 rfl (lv_at hl 0 rfl) ?_
    refine lv_iload_n hx hb dX3_isWithinBounds_5 rfl (lv_at hl 1 rfl) ?_
    obtain ⟨z6, hz6, hf⟩ := zb_of hf
    refine goL (wr := [(q_h_rules, .inr (5, [.int m_h_rules_bits, .int m_h_rules_unit, .int m_h_rules_offset, .int m_h_rules_lean, .int m_h_rules_ref, .int m_h_rules_top, .ref q_h_rules_misses, .ref q_h_rules_resistors]))]) (ws' := [(h, .inr (3, [.ref q_h_rules, .ref q_h_codes, .ref q_h_volts, .ref q_h_grid, .int m_h_unknowns, .int m_h_size, .long m_h_divisor])), (q_h_rules, .inr (5, [.int m_h_rules_bits, .int m_h_rules_unit, .int m_h_rules_offset, .int m_h_rules_lean, .int m_h_rules_ref, .int m_h_rules_top, .ref q_h_rules_misses, .ref q_h_rules_resistors])), (q_h_grid, aJ cy 132 m_h_grid)]) C (runV (n := 1) (As := [.int v1]) (rest := []) C (c_X3_whole l D cy H.size h q_h_rules q_h_codes q_h_volts q_h_grid v1 m_h_unknowns m_h_size m_h_divisor m_h_grid hz6) ml_X3_93 im_X3_whole se_X3_whole ii_X3 cd_X3_whole hd_X3_whole rfl rfl ⟨Nat.le_of_ble_eq_true rfl, Nat.le_of_ble_eq_true rfl⟩ (hP.sub [0, 2] rfl) (hD.sub [0, 2] (by decide) rfl) hS rfl rfl rfl hl.1 rfl (Nat.le_of_ble_eq_true rfl) dX3_isWithinBounds_6) hP hD hS [0, 2] [1] [1, 0, 2] rfl rfl (by decide) (by decide) rfl (by decide) (fun H locs hP hD hS => ?_)
    refine lv_lconst (v := 0) hx hb dX3_isWithinBounds_9 (by decide) ?_
    refine W.lcmp hx hb dX3_isWithinBounds_10 ?_
    refine lv_if_ge (tgt := 16) hx hb dX3_isWithinBounds_11 (by decide) (fun c11 => ?_) (fun c11 => ?_)
    · have hf := zt c11 hf
      exact k_X3_isWithinBounds_J16 C hf hP hD hS (lv_sub hl [0, 1] rfl)
    · have hf := zf c11 hf
      refine lv_iconst (v := 0) hx hb dX3_isWithinBounds_14 (by decide) ?_
      obtain rfl := Option.some.inj hf
      exact ret_z (v := (0 : Int32)) C rfl hP hD hS dX3_isWithinBounds_15
set_option maxRecDepth 100000 in
theorem c_X3_isWithinBounds (l : Launch) (D : va_G) (cy : Nat → ClassId) (sz : Nat) (h q_h_rules q_h_codes q_h_volts q_h_grid q_h_rules_misses q_h_rules_resistors : Nat) (v1 : Int32) (m_h_unknowns : Int32) (m_h_size : Int32) (m_h_divisor : Int64) (m_h_rules_bits : Int32) (m_h_rules_unit : Int32) (m_h_rules_offset : Int32) (m_h_rules_lean : Int32) (m_h_rules_ref : Int32) (m_h_rules_top : Int32) (m_h_grid : Nat → Int64) {z : Int32} (hf : f_X3_isWithinBounds v1 m_h_unknowns m_h_divisor m_h_rules_bits m_h_rules_unit m_h_rules_top m_h_grid = some z) : Met l yX3_isWithinBounds (.code yX3_isWithinBounds cX3_isWithinBounds 4 (some .boolean) :: tb) ({ frames := 4, cells := 0, slots := 0, locals := 86 } : Room) (kp D cy sz [.ref h, .int v1] [(h, .inr (3, [.ref q_h_rules, .ref q_h_codes, .ref q_h_volts, .ref q_h_grid, .int m_h_unknowns, .int m_h_size, .long m_h_divisor])), (q_h_rules, .inr (5, [.int m_h_rules_bits, .int m_h_rules_unit, .int m_h_rules_offset, .int m_h_rules_lean, .int m_h_rules_ref, .int m_h_rules_top, .ref q_h_rules_misses, .ref q_h_rules_resistors])), (q_h_grid, aJ cy 132 m_h_grid)]) (kqz D cy [(h, .inr (3, [.ref q_h_rules, .ref q_h_codes, .ref q_h_volts, .ref q_h_grid, .int m_h_unknowns, .int m_h_size, .long m_h_divisor])), (q_h_rules, .inr (5, [.int m_h_rules_bits, .int m_h_rules_unit, .int m_h_rules_offset, .int m_h_rules_lean, .int m_h_rules_ref, .int m_h_rules_top, .ref q_h_rules_misses, .ref q_h_rules_resistors])), (q_h_grid, aJ cy 132 m_h_grid)] z (va_A [(h, .inr (3, [.ref q_h_rules, .ref q_h_codes, .ref q_h_volts, .ref q_h_grid, .int m_h_unknowns, .int m_h_size, .long m_h_divisor])), (q_h_rules, .inr (5, [.int m_h_rules_bits, .int m_h_rules_unit, .int m_h_rules_offset, .int m_h_rules_lean, .int m_h_rules_ref, .int m_h_rules_top, .ref q_h_rules_misses, .ref q_h_rules_resistors])), (q_h_grid, aJ cy 132 m_h_grid)] sz)) 0 0 (va_A [(h, .inr (3, [.ref q_h_rules, .ref q_h_codes, .ref q_h_volts, .ref q_h_grid, .int m_h_unknowns, .int m_h_size, .long m_h_divisor])), (q_h_rules, .inr (5, [.int m_h_rules_bits, .int m_h_rules_unit, .int m_h_rules_offset, .int m_h_rules_lean, .int m_h_rules_ref, .int m_h_rules_top, .ref q_h_rules_misses, .ref q_h_rules_resistors])), (q_h_grid, aJ cy 132 m_h_grid)] sz) :=
  met_of (fun A => kqz D cy [(h, .inr (3, [.ref q_h_rules, .ref q_h_codes, .ref q_h_volts, .ref q_h_grid, .int m_h_unknowns, .int m_h_size, .long m_h_divisor])), (q_h_rules, .inr (5, [.int m_h_rules_bits, .int m_h_rules_unit, .int m_h_rules_offset, .int m_h_rules_lean, .int m_h_rules_ref, .int m_h_rules_top, .ref q_h_rules_misses, .ref q_h_rules_resistors])), (q_h_grid, aJ cy 132 m_h_grid)] z A) (by decide +kernel) (Nat.le_of_ble_eq_true rfl) (fun p e s m below meth c A ls C hP hD hS hl => k_X3_isWithinBounds C hf hP hD hS hl)
theorem hd_X3_isWithinBounds : yX3_isWithinBounds.cls ≠ "java/lang/invoke/MethodHandle" ∧ yX3_isWithinBounds.cls ≠ "java/lang/invoke/VarHandle" ∧ (parseMethodDescriptor yX3_isWithinBounds.desc).map (fun d => d.parameters.length) = some 1 := by decide +kernel
def f_X3_canBeAdopted_L2 (m_h_unknowns : Int32) (m_h_divisor : Int64) (m_h_rules_bits : Int32) (m_h_rules_unit : Int32) (m_h_rules_top : Int32) (m_h_grid : Nat → Int64) (w : Int32) : Option (Nat × (Int32)) :=
  if m_h_unknowns ≤ w then
    some (1, w)
  else
    if (lg_cmp m_h_divisor (0 : Int64)) = 0 then
      some (2, w)
    else
      zb (f_X3_solved w m_h_unknowns m_h_grid) fun z21 =>
      znl m_h_divisor <|
      if (lg_cmp (z21 - z21 / m_h_divisor * m_h_divisor) (0 : Int64)) = 0 then
        zb (f_X3_isWithinBounds w m_h_unknowns m_h_divisor m_h_rules_bits m_h_rules_unit m_h_rules_top m_h_grid) fun z36 =>
        if z36 = 0 then
          some (2, w)
        else
          zl (w + (1 : Int32)) fun x44 =>
          some (0, x44)
      else
        some (2, w)
set_option maxHeartbeats 4000000 in
set_option maxRecDepth 100000 in
theorem k_X3_canBeAdopted_L2 {h q_h_rules q_h_codes q_h_volts q_h_grid q_h_rules_misses q_h_rules_resistors : Nat} {m_h_unknowns : Int32} {m_h_size : Int32} {m_h_divisor : Int64} {m_h_rules_bits : Int32} {m_h_rules_unit : Int32} {m_h_rules_offset : Int32} {m_h_rules_lean : Int32} {m_h_rules_ref : Int32} {m_h_rules_top : Int32} {m_h_grid : Nat → Int64} {w : Int32} {z : Nat × (Int32)} (C : cx p s m args meth c cX3_canBeAdopted 2 (some .boolean) RX3 D cy A) (hf : f_X3_canBeAdopted_L2 m_h_unknowns m_h_divisor m_h_rules_bits m_h_rules_unit m_h_rules_top m_h_grid w = some z) (hP : va_P D vwCl [(h, .inr (3, [.ref q_h_rules, .ref q_h_codes, .ref q_h_volts, .ref q_h_grid, .int m_h_unknowns, .int m_h_size, .long m_h_divisor])), (q_h_rules, .inr (5, [.int m_h_rules_bits, .int m_h_rules_unit, .int m_h_rules_offset, .int m_h_rules_lean, .int m_h_rules_ref, .int m_h_rules_top, .ref q_h_rules_misses, .ref q_h_rules_resistors])), (q_h_grid, aJ cy 132 m_h_grid)] H) (hD : va_D A [(h, .inr (3, [.ref q_h_rules, .ref q_h_codes, .ref q_h_volts, .ref q_h_grid, .int m_h_unknowns, .int m_h_size, .long m_h_divisor])), (q_h_rules, .inr (5, [.int m_h_rules_bits, .int m_h_rules_unit, .int m_h_rules_offset, .int m_h_rules_lean, .int m_h_rules_ref, .int m_h_rules_top, .ref q_h_rules_misses, .ref q_h_rules_resistors])), (q_h_grid, aJ cy 132 m_h_grid)]) (hS : va_S A s.heap H locs) (hl : lv_has ls 2 [(0, .ref h), (1, .int w)]) (hE0 : ∀ (H : Heap) (locs : List Loc) (ls : Array Slot), z.1 = 0 → va_P D vwCl [(h, .inr (3, [.ref q_h_rules, .ref q_h_codes, .ref q_h_volts, .ref q_h_grid, .int m_h_unknowns, .int m_h_size, .long m_h_divisor])), (q_h_rules, .inr (5, [.int m_h_rules_bits, .int m_h_rules_unit, .int m_h_rules_offset, .int m_h_rules_lean, .int m_h_rules_ref, .int m_h_rules_top, .ref q_h_rules_misses, .ref q_h_rules_resistors])), (q_h_grid, aJ cy 132 m_h_grid)] H → va_D A [(h, .inr (3, [.ref q_h_rules, .ref q_h_codes, .ref q_h_volts, .ref q_h_grid, .int m_h_unknowns, .int m_h_size, .long m_h_divisor])), (q_h_rules, .inr (5, [.int m_h_rules_bits, .int m_h_rules_unit, .int m_h_rules_offset, .int m_h_rules_lean, .int m_h_rules_ref, .int m_h_rules_top, .ref q_h_rules_misses, .ref q_h_rules_resistors])), (q_h_grid, aJ cy 132 m_h_grid)] → va_S A s.heap H locs → lv_has ls 2 [(0, .ref h), (1, .int z.2)] → W p l e ({ frames := 5, cells := 0, slots := 0, locals := 109 } : Room) s m args below meth c H locs 0 0 Q (F0 m 2 ls [])) (hE1 : ∀ (H : Heap) (locs : List Loc) (ls : Array Slot), z.1 = 1 → va_P D vwCl [(h, .inr (3, [.ref q_h_rules, .ref q_h_codes, .ref q_h_volts, .ref q_h_grid, .int m_h_unknowns, .int m_h_size, .long m_h_divisor])), (q_h_rules, .inr (5, [.int m_h_rules_bits, .int m_h_rules_unit, .int m_h_rules_offset, .int m_h_rules_lean, .int m_h_rules_ref, .int m_h_rules_top, .ref q_h_rules_misses, .ref q_h_rules_resistors])), (q_h_grid, aJ cy 132 m_h_grid)] H → va_D A [(h, .inr (3, [.ref q_h_rules, .ref q_h_codes, .ref q_h_volts, .ref q_h_grid, .int m_h_unknowns, .int m_h_size, .long m_h_divisor])), (q_h_rules, .inr (5, [.int m_h_rules_bits, .int m_h_rules_unit, .int m_h_rules_offset, .int m_h_rules_lean, .int m_h_rules_ref, .int m_h_rules_top, .ref q_h_rules_misses, .ref q_h_rules_resistors])), (q_h_grid, aJ cy 132 m_h_grid)] → va_S A s.heap H locs → lv_has ls 2 [] → W p l e ({ frames := 5, cells := 0, slots := 0, locals := 109 } : Room) s m args below meth c H locs 0 0 Q (F0 m 50 ls [])) (hE2 : ∀ (H : Heap) (locs : List Loc) (ls : Array Slot), z.1 = 2 → va_P D vwCl [(h, .inr (3, [.ref q_h_rules, .ref q_h_codes, .ref q_h_volts, .ref q_h_grid, .int m_h_unknowns, .int m_h_size, .long m_h_divisor])), (q_h_rules, .inr (5, [.int m_h_rules_bits, .int m_h_rules_unit, .int m_h_rules_offset, .int m_h_rules_lean, .int m_h_rules_ref, .int m_h_rules_top, .ref q_h_rules_misses, .ref q_h_rules_resistors])), (q_h_grid, aJ cy 132 m_h_grid)] H → va_D A [(h, .inr (3, [.ref q_h_rules, .ref q_h_codes, .ref q_h_volts, .ref q_h_grid, .int m_h_unknowns, .int m_h_size, .long m_h_divisor])), (q_h_rules, .inr (5, [.int m_h_rules_bits, .int m_h_rules_unit, .int m_h_rules_offset, .int m_h_rules_lean, .int m_h_rules_ref, .int m_h_rules_top, .ref q_h_rules_misses, .ref q_h_rules_resistors])), (q_h_grid, aJ cy 132 m_h_grid)] → va_S A s.heap H locs → lv_has ls 2 [] → W p l e ({ frames := 5, cells := 0, slots := 0, locals := 109 } : Room) s m args below meth c H locs 0 0 Q (F0 m 42 ls [])) : W p l e ({ frames := 5, cells := 0, slots := 0, locals := 109 } : Room) s m args below meth c H locs 0 0 Q (F0 m 2 ls []) := by
  obtain ⟨hx, hb, hr, hml, hown, hts, hlk, hK, hA, hN⟩ := id C
  unfold f_X3_canBeAdopted_L2 at hf
  refine lv_iload_n hx hb dX3_canBeAdopted_2 rfl (lv_at hl 1 rfl) ?_
  refine lv_aload_n hx hb dX3_canBeAdopted_3 rfl (lv_at hl 0 rfl) ?_
  refine va_get (D := D) (ci := 3) (v := .int m_h_unknowns) (C := RX3) (T := TX3) (N := 7) hx hb hts ui_X3 hown hK hP 0 rfl rfl 4 (by decide) (hts _ fl_X3_24) (fun _ h9 => h9) rfl dX3_canBeAdopted_4 ?_
  refine lv_icmp_ge (tgt := 50) hx hb dX3_canBeAdopted_7 (by decide) (fun c7 => ?_) (fun c7 => ?_)
  · have hf := zt c7 hf
    obtain rfl := Option.some.inj hf
    exact hE1 _ _ _ rfl hP hD hS (lv_sub hl [] rfl)
  · have hf := zf c7 hf
    refine lv_aload_n hx hb dX3_canBeAdopted_10 rfl (lv_at hl 0 rfl) ?_
    refine va_get (D := D) (ci := 3) (v := .long m_h_divisor) (C := RX3) (T := TX3) (N := 7) hx hb hts ui_X3 hown hK hP 0 rfl rfl 6 (by decide) (hts _ fl_X3_31) (fun _ h9 => h9) rfl dX3_canBeAdopted_11 ?_
    refine lv_lconst (v := 0) hx hb dX3_canBeAdopted_14 (by decide) ?_
    refine W.lcmp hx hb dX3_canBeAdopted_15 ?_
    refine lv_if_eq (tgt := 42) hx hb dX3_canBeAdopted_16 (by decide) (fun c16 => ?_) (fun c16 => ?_)
    · have hf := zt c16 hf
      obtain rfl := Option.some.inj hf
      exact hE2 _ _ _ rfl hP hD hS (lv_sub hl [] rfl)
    · have hf := zf c16 hf
      refine lv_aload_n hx hb dX3_canBeAdopted_19 rfl (lv_at hl 0 rfl) ?_
      refine lv_iload_n hx hb dX3_canBeAdopted_20 rfl (lv_at hl 1 rfl) ?_
      obtain ⟨z21, hz21, hf⟩ := zb_of hf
      refine goL (wr := [(q_h_rules, .inr (5, [.int m_h_rules_bits, .int m_h_rules_unit, .int m_h_rules_offset, .int m_h_rules_lean, .int m_h_rules_ref, .int m_h_rules_top, .ref q_h_rules_misses, .ref q_h_rules_resistors]))]) (ws' := [(h, .inr (3, [.ref q_h_rules, .ref q_h_codes, .ref q_h_volts, .ref q_h_grid, .int m_h_unknowns, .int m_h_size, .long m_h_divisor])), (q_h_rules, .inr (5, [.int m_h_rules_bits, .int m_h_rules_unit, .int m_h_rules_offset, .int m_h_rules_lean, .int m_h_rules_ref, .int m_h_rules_top, .ref q_h_rules_misses, .ref q_h_rules_resistors])), (q_h_grid, aJ cy 132 m_h_grid)]) C (runV (n := 1) (As := [.int w]) (rest := []) C (c_X3_solved l D cy H.size h q_h_rules q_h_codes q_h_volts q_h_grid w m_h_unknowns m_h_size m_h_divisor m_h_grid hz21) ml_X3_85 im_X3_solved se_X3_solved ii_X3 cd_X3_solved hd_X3_solved rfl rfl ⟨Nat.le_of_ble_eq_true rfl, Nat.le_of_ble_eq_true rfl⟩ (hP.sub [0, 2] rfl) (hD.sub [0, 2] (by decide) rfl) hS rfl rfl rfl hl.1 rfl (Nat.le_of_ble_eq_true rfl) dX3_canBeAdopted_21) hP hD hS [0, 2] [1] [1, 0, 2] rfl rfl (by decide) (by decide) rfl (by decide) (fun H locs hP hD hS => ?_)
      refine lv_aload_n hx hb dX3_canBeAdopted_24 rfl (lv_at hl 0 rfl) ?_
      refine va_get (D := D) (ci := 3) (v := .long m_h_divisor) (C := RX3) (T := TX3) (N := 7) hx hb hts ui_X3 hown hK hP 0 rfl rfl 6 (by decide) (hts _ fl_X3_31) (fun _ h9 => h9) rfl dX3_canBeAdopted_25 ?_
      obtain ⟨hne, hf⟩ := znl_of hf
      refine lv_lrem hx hb dX3_canBeAdopted_28 hne ?_
      refine lv_lconst (v := 0) hx hb dX3_canBeAdopted_29 (by decide) ?_
      refine W.lcmp hx hb dX3_canBeAdopted_30 ?_
      refine lv_if_ne (tgt := 42) hx hb dX3_canBeAdopted_31 (by decide) (fun c31 => ?_) (fun c31 => ?_)
      · have hf := zf c31 hf
        obtain rfl := Option.some.inj hf
        exact hE2 _ _ _ rfl hP hD hS (lv_sub hl [] rfl)
      · have hf := zt c31 hf
        refine lv_aload_n hx hb dX3_canBeAdopted_34 rfl (lv_at hl 0 rfl) ?_
        refine lv_iload_n hx hb dX3_canBeAdopted_35 rfl (lv_at hl 1 rfl) ?_
        obtain ⟨z36, hz36, hf⟩ := zb_of hf
        refine goZ (wr := []) (ws' := [(h, .inr (3, [.ref q_h_rules, .ref q_h_codes, .ref q_h_volts, .ref q_h_grid, .int m_h_unknowns, .int m_h_size, .long m_h_divisor])), (q_h_rules, .inr (5, [.int m_h_rules_bits, .int m_h_rules_unit, .int m_h_rules_offset, .int m_h_rules_lean, .int m_h_rules_ref, .int m_h_rules_top, .ref q_h_rules_misses, .ref q_h_rules_resistors])), (q_h_grid, aJ cy 132 m_h_grid)]) C (runV (n := 1) (As := [.int w]) (rest := []) C (c_X3_isWithinBounds l D cy H.size h q_h_rules q_h_codes q_h_volts q_h_grid q_h_rules_misses q_h_rules_resistors w m_h_unknowns m_h_size m_h_divisor m_h_rules_bits m_h_rules_unit m_h_rules_offset m_h_rules_lean m_h_rules_ref m_h_rules_top m_h_grid hz36) ml_X3_89 im_X3_isWithinBounds se_X3_isWithinBounds ii_X3 cd_X3_isWithinBounds hd_X3_isWithinBounds rfl rfl ⟨Nat.le_of_ble_eq_true rfl, Nat.le_of_ble_eq_true rfl⟩ (hP.sub [0, 1, 2] rfl) (hD.sub [0, 1, 2] (by decide) rfl) hS rfl rfl rfl hl.1 rfl (Nat.le_of_ble_eq_true rfl) dX3_canBeAdopted_36) hP hD hS [0, 1, 2] [] [0, 1, 2] rfl rfl (by decide) (by decide) rfl (by decide) (fun H locs n36 hP hD hS => ?_)
        refine lv_if_ne (tgt := 44) hx hb dX3_canBeAdopted_39 (by decide) (fun c39 => ?_) (fun c39 => ?_)
        · have hf := zf c39 hf
          obtain ⟨x44, ex44⟩ : ∃ y : Int32, y = w + (1 : Int32) := ⟨_, rfl⟩
          have hf := zl_of hf x44 ex44
          refine lv_iinc (v := x44) (lv' := [(1, .int x44), (0, .ref h)]) hx hb dX3_canBeAdopted_44 hl (k := 1) rfl (by rw [ex44]; rfl) (by decide) rfl (fun ls hl => ?_)
          refine lv_goto (tgt := 2) hx hb dX3_canBeAdopted_47 (by decide) ?_
          obtain rfl := Option.some.inj hf
          exact hE0 _ _ _ rfl hP hD hS (lv_sub hl [1, 0] rfl)
        · have hf := zt c39 hf
          obtain rfl := Option.some.inj hf
          exact hE2 _ _ _ rfl hP hD hS (lv_sub hl [] rfl)
set_option maxHeartbeats 4000000 in
set_option maxRecDepth 100000 in
theorem kl_X3_canBeAdopted_L2 {h q_h_rules q_h_codes q_h_volts q_h_grid q_h_rules_misses q_h_rules_resistors : Nat} {m_h_unknowns : Int32} {m_h_size : Int32} {m_h_divisor : Int64} {m_h_rules_bits : Int32} {m_h_rules_unit : Int32} {m_h_rules_offset : Int32} {m_h_rules_lean : Int32} {m_h_rules_ref : Int32} {m_h_rules_top : Int32} {m_h_grid : Nat → Int64} (C : cx p s m args meth c cX3_canBeAdopted 2 (some .boolean) RX3 D cy A) : ∀ (n : Nat) (w : Int32) (z : Nat × (Int32)) (H : Heap) (locs : List Loc) (ls : Array Slot), zp (f_X3_canBeAdopted_L2 m_h_unknowns m_h_divisor m_h_rules_bits m_h_rules_unit m_h_rules_top m_h_grid) n w = some z → va_P D vwCl [(h, .inr (3, [.ref q_h_rules, .ref q_h_codes, .ref q_h_volts, .ref q_h_grid, .int m_h_unknowns, .int m_h_size, .long m_h_divisor])), (q_h_rules, .inr (5, [.int m_h_rules_bits, .int m_h_rules_unit, .int m_h_rules_offset, .int m_h_rules_lean, .int m_h_rules_ref, .int m_h_rules_top, .ref q_h_rules_misses, .ref q_h_rules_resistors])), (q_h_grid, aJ cy 132 m_h_grid)] H → va_D A [(h, .inr (3, [.ref q_h_rules, .ref q_h_codes, .ref q_h_volts, .ref q_h_grid, .int m_h_unknowns, .int m_h_size, .long m_h_divisor])), (q_h_rules, .inr (5, [.int m_h_rules_bits, .int m_h_rules_unit, .int m_h_rules_offset, .int m_h_rules_lean, .int m_h_rules_ref, .int m_h_rules_top, .ref q_h_rules_misses, .ref q_h_rules_resistors])), (q_h_grid, aJ cy 132 m_h_grid)] → va_S A s.heap H locs → lv_has ls 2 [(0, .ref h), (1, .int w)] → (∀ (H : Heap) (locs : List Loc) (ls : Array Slot), z.1 = 1 → va_P D vwCl [(h, .inr (3, [.ref q_h_rules, .ref q_h_codes, .ref q_h_volts, .ref q_h_grid, .int m_h_unknowns, .int m_h_size, .long m_h_divisor])), (q_h_rules, .inr (5, [.int m_h_rules_bits, .int m_h_rules_unit, .int m_h_rules_offset, .int m_h_rules_lean, .int m_h_rules_ref, .int m_h_rules_top, .ref q_h_rules_misses, .ref q_h_rules_resistors])), (q_h_grid, aJ cy 132 m_h_grid)] H → va_D A [(h, .inr (3, [.ref q_h_rules, .ref q_h_codes, .ref q_h_volts, .ref q_h_grid, .int m_h_unknowns, .int m_h_size, .long m_h_divisor])), (q_h_rules, .inr (5, [.int m_h_rules_bits, .int m_h_rules_unit, .int m_h_rules_offset, .int m_h_rules_lean, .int m_h_rules_ref, .int m_h_rules_top, .ref q_h_rules_misses, .ref q_h_rules_resistors])), (q_h_grid, aJ cy 132 m_h_grid)] → va_S A s.heap H locs → lv_has ls 2 [] → W p l e ({ frames := 5, cells := 0, slots := 0, locals := 109 } : Room) s m args below meth c H locs 0 0 Q (F0 m 50 ls [])) → (∀ (H : Heap) (locs : List Loc) (ls : Array Slot), z.1 = 2 → va_P D vwCl [(h, .inr (3, [.ref q_h_rules, .ref q_h_codes, .ref q_h_volts, .ref q_h_grid, .int m_h_unknowns, .int m_h_size, .long m_h_divisor])), (q_h_rules, .inr (5, [.int m_h_rules_bits, .int m_h_rules_unit, .int m_h_rules_offset, .int m_h_rules_lean, .int m_h_rules_ref, .int m_h_rules_top, .ref q_h_rules_misses, .ref q_h_rules_resistors])), (q_h_grid, aJ cy 132 m_h_grid)] H → va_D A [(h, .inr (3, [.ref q_h_rules, .ref q_h_codes, .ref q_h_volts, .ref q_h_grid, .int m_h_unknowns, .int m_h_size, .long m_h_divisor])), (q_h_rules, .inr (5, [.int m_h_rules_bits, .int m_h_rules_unit, .int m_h_rules_offset, .int m_h_rules_lean, .int m_h_rules_ref, .int m_h_rules_top, .ref q_h_rules_misses, .ref q_h_rules_resistors])), (q_h_grid, aJ cy 132 m_h_grid)] → va_S A s.heap H locs → lv_has ls 2 [] → W p l e ({ frames := 5, cells := 0, slots := 0, locals := 109 } : Room) s m args below meth c H locs 0 0 Q (F0 m 42 ls [])) → W p l e ({ frames := 5, cells := 0, slots := 0, locals := 109 } : Room) s m args below meth c H locs 0 0 Q (F0 m 2 ls []) := by
  intro n
  induction n with
  | zero => intro w z H locs ls hf; cases hf
  | succ n ih =>
    intro w z H locs ls hf hP hD hS hl hE1 hE2
    obtain ⟨w1, hw, hd⟩ := zp_s hf
    refine k_X3_canBeAdopted_L2 C hw hP hD hS hl (fun H locs ls h0 hP hD hS hl => ?_) (fun H locs ls h0 hP hD hS hl => ?_) (fun H locs ls h0 hP hD hS hl => ?_)
    · rcases hd with ⟨_, h⟩ | ⟨h, _⟩
      · exact ih _ _ _ _ _ h hP hD hS hl hE1 hE2
      · exact absurd h0 h
    · rcases hd with ⟨h, _⟩ | ⟨_, h⟩
      · exact absurd (h.symm.trans h0) (by decide)
      · subst h; exact hE1 _ _ _ h0 hP hD hS hl
    · rcases hd with ⟨h, _⟩ | ⟨_, h⟩
      · exact absurd (h.symm.trans h0) (by decide)
      · subst h; exact hE2 _ _ _ h0 hP hD hS hl
def f_X3_canBeAdopted (m_h_unknowns : Int32) (m_h_divisor : Int64) (m_h_rules_bits : Int32) (m_h_rules_unit : Int32) (m_h_rules_top : Int32) (m_h_grid : Nat → Int64) : Option (Int32) :=
  zb (zp (f_X3_canBeAdopted_L2 m_h_unknowns m_h_divisor m_h_rules_bits m_h_rules_unit m_h_rules_top m_h_grid) zF (0 : Int32)) fun z2 =>
  if z2.1 = 1 then
    some (1 : Int32)
  else
    some (0 : Int32)
set_option maxHeartbeats 4000000 in
set_option maxRecDepth 100000 in
theorem k_X3_canBeAdopted {h q_h_rules q_h_codes q_h_volts q_h_grid q_h_rules_misses q_h_rules_resistors : Nat} {m_h_unknowns : Int32} {m_h_size : Int32} {m_h_divisor : Int64} {m_h_rules_bits : Int32} {m_h_rules_unit : Int32} {m_h_rules_offset : Int32} {m_h_rules_lean : Int32} {m_h_rules_ref : Int32} {m_h_rules_top : Int32} {m_h_grid : Nat → Int64} {z : Int32} (C : cx p s m args meth c cX3_canBeAdopted 2 (some .boolean) RX3 D cy A) (hf : f_X3_canBeAdopted m_h_unknowns m_h_divisor m_h_rules_bits m_h_rules_unit m_h_rules_top m_h_grid = some z) (hP : va_P D vwCl [(h, .inr (3, [.ref q_h_rules, .ref q_h_codes, .ref q_h_volts, .ref q_h_grid, .int m_h_unknowns, .int m_h_size, .long m_h_divisor])), (q_h_rules, .inr (5, [.int m_h_rules_bits, .int m_h_rules_unit, .int m_h_rules_offset, .int m_h_rules_lean, .int m_h_rules_ref, .int m_h_rules_top, .ref q_h_rules_misses, .ref q_h_rules_resistors])), (q_h_grid, aJ cy 132 m_h_grid)] H) (hD : va_D A [(h, .inr (3, [.ref q_h_rules, .ref q_h_codes, .ref q_h_volts, .ref q_h_grid, .int m_h_unknowns, .int m_h_size, .long m_h_divisor])), (q_h_rules, .inr (5, [.int m_h_rules_bits, .int m_h_rules_unit, .int m_h_rules_offset, .int m_h_rules_lean, .int m_h_rules_ref, .int m_h_rules_top, .ref q_h_rules_misses, .ref q_h_rules_resistors])), (q_h_grid, aJ cy 132 m_h_grid)]) (hS : va_S A s.heap H locs) (hl : lv_has ls 2 [(0, .ref h)]) : W p l e ({ frames := 5, cells := 0, slots := 0, locals := 109 } : Room) s m args below meth c H locs 0 0 (MQ below (kqz D cy [(h, .inr (3, [.ref q_h_rules, .ref q_h_codes, .ref q_h_volts, .ref q_h_grid, .int m_h_unknowns, .int m_h_size, .long m_h_divisor])), (q_h_rules, .inr (5, [.int m_h_rules_bits, .int m_h_rules_unit, .int m_h_rules_offset, .int m_h_rules_lean, .int m_h_rules_ref, .int m_h_rules_top, .ref q_h_rules_misses, .ref q_h_rules_resistors])), (q_h_grid, aJ cy 132 m_h_grid)] z A) args s 0 0 A) (F0 m 0 ls []) := by
  obtain ⟨hx, hb, hr, hml, hown, hts, hlk, hK, hA, hN⟩ := id C
  unfold f_X3_canBeAdopted at hf
  refine lv_iconst (v := 0) hx hb dX3_canBeAdopted_0 (by decide) ?_
  refine lv_istore_n (lv' := [(1, .int (0 : Int32)), (0, .ref h)]) hx hb dX3_canBeAdopted_1 rfl hl (by decide) rfl (fun ls hl => ?_)
  obtain ⟨z2, hz2, hf⟩ := zb_of hf
  refine kl_X3_canBeAdopted_L2 C _ _ _ _ _ _ hz2 hP hD hS (lv_sub hl [1, 0] rfl) (fun H locs ls h0 hP hD hS hl => ?_) (fun H locs ls h0 hP hD hS hl => ?_)
  · have hf := zt h0 hf
    refine lv_iconst (v := 1) hx hb dX3_canBeAdopted_50 (by decide) ?_
    obtain rfl := Option.some.inj hf
    exact ret_z (v := (1 : Int32)) C rfl hP hD hS dX3_canBeAdopted_51
  · have hf := zf (by rw [h0]; decide) hf
    refine lv_iconst (v := 0) hx hb dX3_canBeAdopted_42 (by decide) ?_
    obtain rfl := Option.some.inj hf
    exact ret_z (v := (0 : Int32)) C rfl hP hD hS dX3_canBeAdopted_43
set_option maxRecDepth 100000 in
theorem c_X3_canBeAdopted (l : Launch) (D : va_G) (cy : Nat → ClassId) (sz : Nat) (h q_h_rules q_h_codes q_h_volts q_h_grid q_h_rules_misses q_h_rules_resistors : Nat) (m_h_unknowns : Int32) (m_h_size : Int32) (m_h_divisor : Int64) (m_h_rules_bits : Int32) (m_h_rules_unit : Int32) (m_h_rules_offset : Int32) (m_h_rules_lean : Int32) (m_h_rules_ref : Int32) (m_h_rules_top : Int32) (m_h_grid : Nat → Int64) {z : Int32} (hf : f_X3_canBeAdopted m_h_unknowns m_h_divisor m_h_rules_bits m_h_rules_unit m_h_rules_top m_h_grid = some z) : Met l yX3_canBeAdopted (.code yX3_canBeAdopted cX3_canBeAdopted 2 (some .boolean) :: tb) ({ frames := 5, cells := 0, slots := 0, locals := 109 } : Room) (kp D cy sz [.ref h] [(h, .inr (3, [.ref q_h_rules, .ref q_h_codes, .ref q_h_volts, .ref q_h_grid, .int m_h_unknowns, .int m_h_size, .long m_h_divisor])), (q_h_rules, .inr (5, [.int m_h_rules_bits, .int m_h_rules_unit, .int m_h_rules_offset, .int m_h_rules_lean, .int m_h_rules_ref, .int m_h_rules_top, .ref q_h_rules_misses, .ref q_h_rules_resistors])), (q_h_grid, aJ cy 132 m_h_grid)]) (kqz D cy [(h, .inr (3, [.ref q_h_rules, .ref q_h_codes, .ref q_h_volts, .ref q_h_grid, .int m_h_unknowns, .int m_h_size, .long m_h_divisor])), (q_h_rules, .inr (5, [.int m_h_rules_bits, .int m_h_rules_unit, .int m_h_rules_offset, .int m_h_rules_lean, .int m_h_rules_ref, .int m_h_rules_top, .ref q_h_rules_misses, .ref q_h_rules_resistors])), (q_h_grid, aJ cy 132 m_h_grid)] z (va_A [(h, .inr (3, [.ref q_h_rules, .ref q_h_codes, .ref q_h_volts, .ref q_h_grid, .int m_h_unknowns, .int m_h_size, .long m_h_divisor])), (q_h_rules, .inr (5, [.int m_h_rules_bits, .int m_h_rules_unit, .int m_h_rules_offset, .int m_h_rules_lean, .int m_h_rules_ref, .int m_h_rules_top, .ref q_h_rules_misses, .ref q_h_rules_resistors])), (q_h_grid, aJ cy 132 m_h_grid)] sz)) 0 0 (va_A [(h, .inr (3, [.ref q_h_rules, .ref q_h_codes, .ref q_h_volts, .ref q_h_grid, .int m_h_unknowns, .int m_h_size, .long m_h_divisor])), (q_h_rules, .inr (5, [.int m_h_rules_bits, .int m_h_rules_unit, .int m_h_rules_offset, .int m_h_rules_lean, .int m_h_rules_ref, .int m_h_rules_top, .ref q_h_rules_misses, .ref q_h_rules_resistors])), (q_h_grid, aJ cy 132 m_h_grid)] sz) :=
  met_of (fun A => kqz D cy [(h, .inr (3, [.ref q_h_rules, .ref q_h_codes, .ref q_h_volts, .ref q_h_grid, .int m_h_unknowns, .int m_h_size, .long m_h_divisor])), (q_h_rules, .inr (5, [.int m_h_rules_bits, .int m_h_rules_unit, .int m_h_rules_offset, .int m_h_rules_lean, .int m_h_rules_ref, .int m_h_rules_top, .ref q_h_rules_misses, .ref q_h_rules_resistors])), (q_h_grid, aJ cy 132 m_h_grid)] z A) (by decide +kernel) (Nat.le_of_ble_eq_true rfl) (fun p e s m below meth c A ls C hP hD hS hl => k_X3_canBeAdopted C hf hP hD hS hl)
theorem hd_X3_canBeAdopted : yX3_canBeAdopted.cls ≠ "java/lang/invoke/MethodHandle" ∧ yX3_canBeAdopted.cls ≠ "java/lang/invoke/VarHandle" ∧ (parseMethodDescriptor yX3_canBeAdopted.desc).map (fun d => d.parameters.length) = some 0 := by decide +kernel
def f_X3_adoptAll_J69_33 (v1 : Int32) (v3 : Int32) (v4 : Int32) (m_h_rules_misses : Nat → Int32) : Option (Nat × (Int32 × Int32 × (Nat → Int32))) :=
  zb (f_X5_putMiss v3 v4 m_h_rules_misses) fun z76 =>
  zl (v3 + (1 : Int32)) fun x79 =>
  some (0, (v1, x79, z76))
set_option maxHeartbeats 4000000 in
set_option maxRecDepth 100000 in
theorem k_X3_adoptAll_J69_33 {h q_h_rules q_h_codes q_h_volts q_h_grid q_h_rules_misses q_h_rules_resistors : Nat} {v1 : Int32} {v3 : Int32} {v4 : Int32} {m_h_unknowns : Int32} {m_h_size : Int32} {m_h_divisor : Int64} {m_h_rules_bits : Int32} {m_h_rules_unit : Int32} {m_h_rules_offset : Int32} {m_h_rules_lean : Int32} {m_h_rules_ref : Int32} {m_h_rules_top : Int32} {m_h_rules_misses : Nat → Int32} {m_h_grid : Nat → Int64} {z : Nat × (Int32 × Int32 × (Nat → Int32))} (C : cx p s m args meth c cX3_adoptAll 5 (some .int) RX3 D cy A) (hf : f_X3_adoptAll_J69_33 v1 v3 v4 m_h_rules_misses = some z) (hP : va_P D vwCl [(h, .inr (3, [.ref q_h_rules, .ref q_h_codes, .ref q_h_volts, .ref q_h_grid, .int m_h_unknowns, .int m_h_size, .long m_h_divisor])), (q_h_rules, .inr (5, [.int m_h_rules_bits, .int m_h_rules_unit, .int m_h_rules_offset, .int m_h_rules_lean, .int m_h_rules_ref, .int m_h_rules_top, .ref q_h_rules_misses, .ref q_h_rules_resistors])), (q_h_rules_misses, aI cy 9 m_h_rules_misses), (q_h_grid, aJ cy 132 m_h_grid)] H) (hD : va_D A [(h, .inr (3, [.ref q_h_rules, .ref q_h_codes, .ref q_h_volts, .ref q_h_grid, .int m_h_unknowns, .int m_h_size, .long m_h_divisor])), (q_h_rules, .inr (5, [.int m_h_rules_bits, .int m_h_rules_unit, .int m_h_rules_offset, .int m_h_rules_lean, .int m_h_rules_ref, .int m_h_rules_top, .ref q_h_rules_misses, .ref q_h_rules_resistors])), (q_h_rules_misses, aI cy 9 m_h_rules_misses), (q_h_grid, aJ cy 132 m_h_grid)]) (hS : va_S A s.heap H locs) (hl : lv_has ls 5 [(0, .ref h), (1, .int v1), (3, .int v3), (4, .int v4)]) (hE0 : ∀ (H : Heap) (locs : List Loc) (ls : Array Slot), z.1 = 0 → va_P D vwCl [(h, .inr (3, [.ref q_h_rules, .ref q_h_codes, .ref q_h_volts, .ref q_h_grid, .int m_h_unknowns, .int m_h_size, .long m_h_divisor])), (q_h_rules, .inr (5, [.int m_h_rules_bits, .int m_h_rules_unit, .int m_h_rules_offset, .int m_h_rules_lean, .int m_h_rules_ref, .int m_h_rules_top, .ref q_h_rules_misses, .ref q_h_rules_resistors])), (q_h_rules_misses, aI cy 9 z.2.2.2), (q_h_grid, aJ cy 132 m_h_grid)] H → va_D A [(h, .inr (3, [.ref q_h_rules, .ref q_h_codes, .ref q_h_volts, .ref q_h_grid, .int m_h_unknowns, .int m_h_size, .long m_h_divisor])), (q_h_rules, .inr (5, [.int m_h_rules_bits, .int m_h_rules_unit, .int m_h_rules_offset, .int m_h_rules_lean, .int m_h_rules_ref, .int m_h_rules_top, .ref q_h_rules_misses, .ref q_h_rules_resistors])), (q_h_rules_misses, aI cy 9 z.2.2.2), (q_h_grid, aJ cy 132 m_h_grid)] → va_S A s.heap H locs → lv_has ls 5 [(0, .ref h), (1, .int z.2.1), (3, .int z.2.2.1)] → W p l e ({ frames := 4, cells := 0, slots := 0, locals := 86 } : Room) s m args below meth c H locs 0 0 Q (F0 m 33 ls [])) (hE1 : ∀ (H : Heap) (locs : List Loc) (ls : Array Slot), z.1 = 1 → va_P D vwCl [(h, .inr (3, [.ref q_h_rules, .ref q_h_codes, .ref q_h_volts, .ref q_h_grid, .int m_h_unknowns, .int m_h_size, .long m_h_divisor])), (q_h_rules, .inr (5, [.int m_h_rules_bits, .int m_h_rules_unit, .int m_h_rules_offset, .int m_h_rules_lean, .int m_h_rules_ref, .int m_h_rules_top, .ref q_h_rules_misses, .ref q_h_rules_resistors])), (q_h_rules_misses, aI cy 9 z.2.2.2), (q_h_grid, aJ cy 132 m_h_grid)] H → va_D A [(h, .inr (3, [.ref q_h_rules, .ref q_h_codes, .ref q_h_volts, .ref q_h_grid, .int m_h_unknowns, .int m_h_size, .long m_h_divisor])), (q_h_rules, .inr (5, [.int m_h_rules_bits, .int m_h_rules_unit, .int m_h_rules_offset, .int m_h_rules_lean, .int m_h_rules_ref, .int m_h_rules_top, .ref q_h_rules_misses, .ref q_h_rules_resistors])), (q_h_rules_misses, aI cy 9 z.2.2.2), (q_h_grid, aJ cy 132 m_h_grid)] → va_S A s.heap H locs → lv_has ls 5 [(1, .int z.2.1)] → W p l e ({ frames := 4, cells := 0, slots := 0, locals := 86 } : Room) s m args below meth c H locs 0 0 Q (F0 m 85 ls [])) : W p l e ({ frames := 4, cells := 0, slots := 0, locals := 86 } : Room) s m args below meth c H locs 0 0 Q (F0 m 69 ls []) := by
  obtain ⟨hx, hb, hr, hml, hown, hts, hlk, hK, hA, hN⟩ := id C
  unfold f_X3_adoptAll_J69_33 at hf
  refine lv_aload_n hx hb dX3_adoptAll_69 rfl (lv_at hl 0 rfl) ?_
  refine va_get (D := D) (ci := 3) (v := .ref q_h_rules) (C := RX3) (T := TX3) (N := 7) hx hb hts ui_X3 hown hK hP 0 rfl rfl 0 (by decide) (hts _ fl_X3_35) (fun _ h9 => h9) rfl dX3_adoptAll_70 ?_
  refine lv_iload_n hx hb dX3_adoptAll_73 rfl (lv_at hl 2 rfl) ?_
  refine lv_iload hx hb dX3_adoptAll_74 (lv_at hl 3 rfl) ?_
  obtain ⟨z76, hz76, hf⟩ := zb_of hf
  refine goV (wr := [(h, .inr (3, [.ref q_h_rules, .ref q_h_codes, .ref q_h_volts, .ref q_h_grid, .int m_h_unknowns, .int m_h_size, .long m_h_divisor])), (q_h_grid, aJ cy 132 m_h_grid)]) (ws' := [(h, .inr (3, [.ref q_h_rules, .ref q_h_codes, .ref q_h_volts, .ref q_h_grid, .int m_h_unknowns, .int m_h_size, .long m_h_divisor])), (q_h_rules, .inr (5, [.int m_h_rules_bits, .int m_h_rules_unit, .int m_h_rules_offset, .int m_h_rules_lean, .int m_h_rules_ref, .int m_h_rules_top, .ref q_h_rules_misses, .ref q_h_rules_resistors])), (q_h_rules_misses, aI cy 9 z76), (q_h_grid, aJ cy 132 m_h_grid)]) C (runV (n := 2) (As := [.int v3, .int v4]) (rest := []) C (c_X5_putMiss l D cy H.size q_h_rules q_h_rules_misses q_h_rules_resistors v3 v4 m_h_rules_bits m_h_rules_unit m_h_rules_offset m_h_rules_lean m_h_rules_ref m_h_rules_top m_h_rules_misses hz76) ml_X3_112 im_X5_putMiss se_X5_putMiss ii_X5 cd_X5_putMiss hd_X5_putMiss rfl rfl ⟨Nat.le_of_ble_eq_true rfl, Nat.le_of_ble_eq_true rfl⟩ (hP.sub [1, 2] rfl) (hD.sub [1, 2] (by decide) rfl) hS rfl rfl rfl hl.1 rfl (Nat.le_of_ble_eq_true rfl) dX3_adoptAll_76) hP hD hS [1, 2] [0, 3] [0, 2, 3, 1] rfl rfl (by decide) (by decide) rfl (by decide) (fun H locs hP hD hS => ?_)
  obtain ⟨x79, ex79⟩ : ∃ y : Int32, y = v3 + (1 : Int32) := ⟨_, rfl⟩
  have hf := zl_of hf x79 ex79
  refine lv_iinc (v := x79) (lv' := [(3, .int x79), (0, .ref h), (1, .int v1), (4, .int v4)]) hx hb dX3_adoptAll_79 hl (k := 2) rfl (by rw [ex79]; rfl) (by decide) rfl (fun ls hl => ?_)
  refine lv_goto (tgt := 33) hx hb dX3_adoptAll_82 (by decide) ?_
  obtain rfl := Option.some.inj hf
  exact hE0 _ _ _ rfl hP hD hS (lv_sub hl [1, 2, 0] rfl)
def f_X3_adoptAll_L33 (m_h_unknowns : Int32) (m_h_divisor : Int64) (m_h_rules_bits : Int32) (m_h_rules_unit : Int32) (m_h_rules_top : Int32) (m_h_grid : Nat → Int64) (w : Int32 × Int32 × (Nat → Int32)) : Option (Nat × (Int32 × Int32 × (Nat → Int32))) :=
  if (m_h_unknowns - (1 : Int32)) ≤ w.2.1 then
    some (1, (w.1, w.2.1, w.2.2))
  else
    zb (f_X3_newRule ((1 : Int32) + w.2.1) m_h_unknowns m_h_divisor m_h_rules_bits m_h_rules_unit m_h_rules_top m_h_grid) fun z47 =>
    zl (z47.toInt32) fun x51 =>
    zb (f_X5_missOf w.2.1 m_h_rules_bits m_h_rules_top w.2.2) fun z60 =>
    if x51 = z60 then
      f_X3_adoptAll_J69_33 w.1 w.2.1 x51 w.2.2
    else
      zl (w.1 + (1 : Int32)) fun x66 =>
      f_X3_adoptAll_J69_33 x66 w.2.1 x51 w.2.2
set_option maxHeartbeats 4000000 in
set_option maxRecDepth 100000 in
theorem k_X3_adoptAll_L33 {h q_h_rules q_h_codes q_h_volts q_h_grid q_h_rules_misses q_h_rules_resistors : Nat} {m_h_unknowns : Int32} {m_h_size : Int32} {m_h_divisor : Int64} {m_h_rules_bits : Int32} {m_h_rules_unit : Int32} {m_h_rules_offset : Int32} {m_h_rules_lean : Int32} {m_h_rules_ref : Int32} {m_h_rules_top : Int32} {m_h_grid : Nat → Int64} {w : Int32 × Int32 × (Nat → Int32)} {z : Nat × (Int32 × Int32 × (Nat → Int32))} (C : cx p s m args meth c cX3_adoptAll 5 (some .int) RX3 D cy A) (hf : f_X3_adoptAll_L33 m_h_unknowns m_h_divisor m_h_rules_bits m_h_rules_unit m_h_rules_top m_h_grid w = some z) (hP : va_P D vwCl [(h, .inr (3, [.ref q_h_rules, .ref q_h_codes, .ref q_h_volts, .ref q_h_grid, .int m_h_unknowns, .int m_h_size, .long m_h_divisor])), (q_h_rules, .inr (5, [.int m_h_rules_bits, .int m_h_rules_unit, .int m_h_rules_offset, .int m_h_rules_lean, .int m_h_rules_ref, .int m_h_rules_top, .ref q_h_rules_misses, .ref q_h_rules_resistors])), (q_h_rules_misses, aI cy 9 w.2.2), (q_h_grid, aJ cy 132 m_h_grid)] H) (hD : va_D A [(h, .inr (3, [.ref q_h_rules, .ref q_h_codes, .ref q_h_volts, .ref q_h_grid, .int m_h_unknowns, .int m_h_size, .long m_h_divisor])), (q_h_rules, .inr (5, [.int m_h_rules_bits, .int m_h_rules_unit, .int m_h_rules_offset, .int m_h_rules_lean, .int m_h_rules_ref, .int m_h_rules_top, .ref q_h_rules_misses, .ref q_h_rules_resistors])), (q_h_rules_misses, aI cy 9 w.2.2), (q_h_grid, aJ cy 132 m_h_grid)]) (hS : va_S A s.heap H locs) (hl : lv_has ls 5 [(0, .ref h), (1, .int w.1), (3, .int w.2.1)]) (hE0 : ∀ (H : Heap) (locs : List Loc) (ls : Array Slot), z.1 = 0 → va_P D vwCl [(h, .inr (3, [.ref q_h_rules, .ref q_h_codes, .ref q_h_volts, .ref q_h_grid, .int m_h_unknowns, .int m_h_size, .long m_h_divisor])), (q_h_rules, .inr (5, [.int m_h_rules_bits, .int m_h_rules_unit, .int m_h_rules_offset, .int m_h_rules_lean, .int m_h_rules_ref, .int m_h_rules_top, .ref q_h_rules_misses, .ref q_h_rules_resistors])), (q_h_rules_misses, aI cy 9 z.2.2.2), (q_h_grid, aJ cy 132 m_h_grid)] H → va_D A [(h, .inr (3, [.ref q_h_rules, .ref q_h_codes, .ref q_h_volts, .ref q_h_grid, .int m_h_unknowns, .int m_h_size, .long m_h_divisor])), (q_h_rules, .inr (5, [.int m_h_rules_bits, .int m_h_rules_unit, .int m_h_rules_offset, .int m_h_rules_lean, .int m_h_rules_ref, .int m_h_rules_top, .ref q_h_rules_misses, .ref q_h_rules_resistors])), (q_h_rules_misses, aI cy 9 z.2.2.2), (q_h_grid, aJ cy 132 m_h_grid)] → va_S A s.heap H locs → lv_has ls 5 [(0, .ref h), (1, .int z.2.1), (3, .int z.2.2.1)] → W p l e ({ frames := 4, cells := 0, slots := 0, locals := 86 } : Room) s m args below meth c H locs 0 0 Q (F0 m 33 ls [])) (hE1 : ∀ (H : Heap) (locs : List Loc) (ls : Array Slot), z.1 = 1 → va_P D vwCl [(h, .inr (3, [.ref q_h_rules, .ref q_h_codes, .ref q_h_volts, .ref q_h_grid, .int m_h_unknowns, .int m_h_size, .long m_h_divisor])), (q_h_rules, .inr (5, [.int m_h_rules_bits, .int m_h_rules_unit, .int m_h_rules_offset, .int m_h_rules_lean, .int m_h_rules_ref, .int m_h_rules_top, .ref q_h_rules_misses, .ref q_h_rules_resistors])), (q_h_rules_misses, aI cy 9 z.2.2.2), (q_h_grid, aJ cy 132 m_h_grid)] H → va_D A [(h, .inr (3, [.ref q_h_rules, .ref q_h_codes, .ref q_h_volts, .ref q_h_grid, .int m_h_unknowns, .int m_h_size, .long m_h_divisor])), (q_h_rules, .inr (5, [.int m_h_rules_bits, .int m_h_rules_unit, .int m_h_rules_offset, .int m_h_rules_lean, .int m_h_rules_ref, .int m_h_rules_top, .ref q_h_rules_misses, .ref q_h_rules_resistors])), (q_h_rules_misses, aI cy 9 z.2.2.2), (q_h_grid, aJ cy 132 m_h_grid)] → va_S A s.heap H locs → lv_has ls 5 [(1, .int z.2.1)] → W p l e ({ frames := 4, cells := 0, slots := 0, locals := 86 } : Room) s m args below meth c H locs 0 0 Q (F0 m 85 ls [])) : W p l e ({ frames := 4, cells := 0, slots := 0, locals := 86 } : Room) s m args below meth c H locs 0 0 Q (F0 m 33 ls []) := by
  obtain ⟨hx, hb, hr, hml, hown, hts, hlk, hK, hA, hN⟩ := id C
  unfold f_X3_adoptAll_L33 at hf
  refine lv_iload_n hx hb dX3_adoptAll_33 rfl (lv_at hl 2 rfl) ?_
  refine lv_aload_n hx hb dX3_adoptAll_34 rfl (lv_at hl 0 rfl) ?_
  refine va_get (D := D) (ci := 3) (v := .int m_h_unknowns) (C := RX3) (T := TX3) (N := 7) hx hb hts ui_X3 hown hK hP 0 rfl rfl 4 (by decide) (hts _ fl_X3_24) (fun _ h9 => h9) rfl dX3_adoptAll_35 ?_
  refine lv_iconst (v := 1) hx hb dX3_adoptAll_38 (by decide) ?_
  refine lv_isub hx hb dX3_adoptAll_39 ?_
  refine lv_icmp_ge (tgt := 85) hx hb dX3_adoptAll_40 (by decide) (fun c40 => ?_) (fun c40 => ?_)
  · have hf := zt c40 hf
    obtain rfl := Option.some.inj hf
    exact hE1 _ _ _ rfl hP hD hS (lv_sub hl [1] rfl)
  · have hf := zf c40 hf
    refine lv_aload_n hx hb dX3_adoptAll_43 rfl (lv_at hl 0 rfl) ?_
    refine lv_iconst (v := 1) hx hb dX3_adoptAll_44 (by decide) ?_
    refine lv_iload_n hx hb dX3_adoptAll_45 rfl (lv_at hl 2 rfl) ?_
    refine lv_iadd hx hb dX3_adoptAll_46 ?_
    obtain ⟨z47, hz47, hf⟩ := zb_of hf
    refine goL (wr := [(q_h_rules_misses, aI cy 9 w.2.2)]) (ws' := [(h, .inr (3, [.ref q_h_rules, .ref q_h_codes, .ref q_h_volts, .ref q_h_grid, .int m_h_unknowns, .int m_h_size, .long m_h_divisor])), (q_h_rules, .inr (5, [.int m_h_rules_bits, .int m_h_rules_unit, .int m_h_rules_offset, .int m_h_rules_lean, .int m_h_rules_ref, .int m_h_rules_top, .ref q_h_rules_misses, .ref q_h_rules_resistors])), (q_h_rules_misses, aI cy 9 w.2.2), (q_h_grid, aJ cy 132 m_h_grid)]) C (runV (n := 1) (As := [.int ((1 : Int32) + w.2.1)]) (rest := []) C (c_X3_newRule l D cy H.size h q_h_rules q_h_codes q_h_volts q_h_grid q_h_rules_misses q_h_rules_resistors ((1 : Int32) + w.2.1) m_h_unknowns m_h_size m_h_divisor m_h_rules_bits m_h_rules_unit m_h_rules_offset m_h_rules_lean m_h_rules_ref m_h_rules_top m_h_grid hz47) ml_X3_96 im_X3_newRule se_X3_newRule ii_X3 cd_X3_newRule hd_X3_newRule rfl rfl ⟨Nat.le_of_ble_eq_true rfl, Nat.le_of_ble_eq_true rfl⟩ (hP.sub [0, 1, 3] rfl) (hD.sub [0, 1, 3] (by decide) rfl) hS rfl rfl rfl hl.1 rfl (Nat.le_of_ble_eq_true rfl) dX3_adoptAll_47) hP hD hS [0, 1, 3] [2] [1, 2, 0, 3] rfl rfl (by decide) (by decide) rfl (by decide) (fun H locs hP hD hS => ?_)
    refine lv_l2i hx hb dX3_adoptAll_50 rfl ?_
    refine lv_topi (fun x51 ex51 => ?_)
    have hf := zl_of hf x51 ex51
    refine lv_istore (lv' := [(4, .int x51), (0, .ref h), (1, .int w.1), (3, .int w.2.1)]) hx hb dX3_adoptAll_51 hl (by decide) rfl (fun ls hl => ?_)
    refine lv_iload hx hb dX3_adoptAll_53 (lv_at hl 0 rfl) ?_
    refine lv_aload_n hx hb dX3_adoptAll_55 rfl (lv_at hl 1 rfl) ?_
    refine va_get (D := D) (ci := 3) (v := .ref q_h_rules) (C := RX3) (T := TX3) (N := 7) hx hb hts ui_X3 hown hK hP 0 rfl rfl 0 (by decide) (hts _ fl_X3_35) (fun _ h9 => h9) rfl dX3_adoptAll_56 ?_
    refine lv_iload_n hx hb dX3_adoptAll_59 rfl (lv_at hl 3 rfl) ?_
    obtain ⟨z60, hz60, hf⟩ := zb_of hf
    refine goI (wr := [(h, .inr (3, [.ref q_h_rules, .ref q_h_codes, .ref q_h_volts, .ref q_h_grid, .int m_h_unknowns, .int m_h_size, .long m_h_divisor])), (q_h_grid, aJ cy 132 m_h_grid)]) (ws' := [(h, .inr (3, [.ref q_h_rules, .ref q_h_codes, .ref q_h_volts, .ref q_h_grid, .int m_h_unknowns, .int m_h_size, .long m_h_divisor])), (q_h_rules, .inr (5, [.int m_h_rules_bits, .int m_h_rules_unit, .int m_h_rules_offset, .int m_h_rules_lean, .int m_h_rules_ref, .int m_h_rules_top, .ref q_h_rules_misses, .ref q_h_rules_resistors])), (q_h_rules_misses, aI cy 9 w.2.2), (q_h_grid, aJ cy 132 m_h_grid)]) C (runV (n := 1) (As := [.int w.2.1]) (rest := [.int x51]) C (c_X5_missOf l D cy H.size q_h_rules q_h_rules_misses q_h_rules_resistors w.2.1 m_h_rules_bits m_h_rules_unit m_h_rules_offset m_h_rules_lean m_h_rules_ref m_h_rules_top w.2.2 hz60) ml_X3_109 im_X5_missOf se_X5_missOf ii_X5 cd_X5_missOf hd_X5_missOf rfl rfl ⟨Nat.le_of_ble_eq_true rfl, Nat.le_of_ble_eq_true rfl⟩ (hP.sub [1, 2] rfl) (hD.sub [1, 2] (by decide) rfl) hS rfl rfl rfl hl.1 rfl (Nat.le_of_ble_eq_true rfl) dX3_adoptAll_60) hP hD hS [1, 2] [0, 3] [0, 2, 3, 1] rfl rfl (by decide) (by decide) rfl (by decide) (fun H locs hP hD hS => ?_)
    refine lv_icmp_eq (tgt := 69) hx hb dX3_adoptAll_63 (by decide) (fun c63 => ?_) (fun c63 => ?_)
    · have hf := zt c63 hf
      exact k_X3_adoptAll_J69_33 C hf hP hD hS (lv_sub hl [1, 2, 3, 0] rfl) hE0 hE1
    · have hf := zf c63 hf
      obtain ⟨x66, ex66⟩ : ∃ y : Int32, y = w.1 + (1 : Int32) := ⟨_, rfl⟩
      have hf := zl_of hf x66 ex66
      refine lv_iinc (v := x66) (lv' := [(1, .int x66), (4, .int x51), (0, .ref h), (3, .int w.2.1)]) hx hb dX3_adoptAll_66 hl (k := 2) rfl (by rw [ex66]; rfl) (by decide) rfl (fun ls hl => ?_)
      exact k_X3_adoptAll_J69_33 C hf hP hD hS (lv_sub hl [2, 0, 3, 1] rfl) hE0 hE1
set_option maxHeartbeats 4000000 in
set_option maxRecDepth 100000 in
theorem kl_X3_adoptAll_L33 {h q_h_rules q_h_codes q_h_volts q_h_grid q_h_rules_misses q_h_rules_resistors : Nat} {m_h_unknowns : Int32} {m_h_size : Int32} {m_h_divisor : Int64} {m_h_rules_bits : Int32} {m_h_rules_unit : Int32} {m_h_rules_offset : Int32} {m_h_rules_lean : Int32} {m_h_rules_ref : Int32} {m_h_rules_top : Int32} {m_h_grid : Nat → Int64} (C : cx p s m args meth c cX3_adoptAll 5 (some .int) RX3 D cy A) : ∀ (n : Nat) (w : Int32 × Int32 × (Nat → Int32)) (z : Nat × (Int32 × Int32 × (Nat → Int32))) (H : Heap) (locs : List Loc) (ls : Array Slot), zp (f_X3_adoptAll_L33 m_h_unknowns m_h_divisor m_h_rules_bits m_h_rules_unit m_h_rules_top m_h_grid) n w = some z → va_P D vwCl [(h, .inr (3, [.ref q_h_rules, .ref q_h_codes, .ref q_h_volts, .ref q_h_grid, .int m_h_unknowns, .int m_h_size, .long m_h_divisor])), (q_h_rules, .inr (5, [.int m_h_rules_bits, .int m_h_rules_unit, .int m_h_rules_offset, .int m_h_rules_lean, .int m_h_rules_ref, .int m_h_rules_top, .ref q_h_rules_misses, .ref q_h_rules_resistors])), (q_h_rules_misses, aI cy 9 w.2.2), (q_h_grid, aJ cy 132 m_h_grid)] H → va_D A [(h, .inr (3, [.ref q_h_rules, .ref q_h_codes, .ref q_h_volts, .ref q_h_grid, .int m_h_unknowns, .int m_h_size, .long m_h_divisor])), (q_h_rules, .inr (5, [.int m_h_rules_bits, .int m_h_rules_unit, .int m_h_rules_offset, .int m_h_rules_lean, .int m_h_rules_ref, .int m_h_rules_top, .ref q_h_rules_misses, .ref q_h_rules_resistors])), (q_h_rules_misses, aI cy 9 w.2.2), (q_h_grid, aJ cy 132 m_h_grid)] → va_S A s.heap H locs → lv_has ls 5 [(0, .ref h), (1, .int w.1), (3, .int w.2.1)] → (∀ (H : Heap) (locs : List Loc) (ls : Array Slot), z.1 = 1 → va_P D vwCl [(h, .inr (3, [.ref q_h_rules, .ref q_h_codes, .ref q_h_volts, .ref q_h_grid, .int m_h_unknowns, .int m_h_size, .long m_h_divisor])), (q_h_rules, .inr (5, [.int m_h_rules_bits, .int m_h_rules_unit, .int m_h_rules_offset, .int m_h_rules_lean, .int m_h_rules_ref, .int m_h_rules_top, .ref q_h_rules_misses, .ref q_h_rules_resistors])), (q_h_rules_misses, aI cy 9 z.2.2.2), (q_h_grid, aJ cy 132 m_h_grid)] H → va_D A [(h, .inr (3, [.ref q_h_rules, .ref q_h_codes, .ref q_h_volts, .ref q_h_grid, .int m_h_unknowns, .int m_h_size, .long m_h_divisor])), (q_h_rules, .inr (5, [.int m_h_rules_bits, .int m_h_rules_unit, .int m_h_rules_offset, .int m_h_rules_lean, .int m_h_rules_ref, .int m_h_rules_top, .ref q_h_rules_misses, .ref q_h_rules_resistors])), (q_h_rules_misses, aI cy 9 z.2.2.2), (q_h_grid, aJ cy 132 m_h_grid)] → va_S A s.heap H locs → lv_has ls 5 [(1, .int z.2.1)] → W p l e ({ frames := 4, cells := 0, slots := 0, locals := 86 } : Room) s m args below meth c H locs 0 0 Q (F0 m 85 ls [])) → W p l e ({ frames := 4, cells := 0, slots := 0, locals := 86 } : Room) s m args below meth c H locs 0 0 Q (F0 m 33 ls []) := by
  intro n
  induction n with
  | zero => intro w z H locs ls hf; cases hf
  | succ n ih =>
    intro w z H locs ls hf hP hD hS hl hE1
    obtain ⟨w1, hw, hd⟩ := zp_s hf
    refine k_X3_adoptAll_L33 C hw hP hD hS hl (fun H locs ls h0 hP hD hS hl => ?_) (fun H locs ls h0 hP hD hS hl => ?_)
    · rcases hd with ⟨_, h⟩ | ⟨h, _⟩
      · exact ih _ _ _ _ _ h hP hD hS hl hE1
      · exact absurd h0 h
    · rcases hd with ⟨h, _⟩ | ⟨_, h⟩
      · exact absurd (h.symm.trans h0) (by decide)
      · subst h; exact hE1 _ _ _ h0 hP hD hS hl
def f_X3_adoptAll_J23 (v1 : Int32) (v2 : Int32) (m_h_unknowns : Int32) (m_h_divisor : Int64) (m_h_rules_bits : Int32) (m_h_rules_unit : Int32) (m_h_rules_top : Int32) (m_h_rules_misses : Nat → Int32) (m_h_grid : Nat → Int64) : Option (Int32 × Int32 × (Nat → Int32)) :=
  zb (zp (f_X3_adoptAll_L33 m_h_unknowns m_h_divisor m_h_rules_bits m_h_rules_unit m_h_rules_top m_h_grid) zF (v1, (0 : Int32), m_h_rules_misses)) fun z33 =>
  some (z33.2.1, v2, z33.2.2.2)
set_option maxHeartbeats 4000000 in
set_option maxRecDepth 100000 in
theorem k_X3_adoptAll_J23 {h q_h_rules q_h_codes q_h_volts q_h_grid q_h_rules_misses q_h_rules_resistors : Nat} {v1 : Int32} {v2 : Int32} {m_h_unknowns : Int32} {m_h_size : Int32} {m_h_divisor : Int64} {m_h_rules_bits : Int32} {m_h_rules_unit : Int32} {m_h_rules_offset : Int32} {m_h_rules_lean : Int32} {m_h_rules_ref : Int32} {m_h_rules_top : Int32} {m_h_rules_misses : Nat → Int32} {m_h_grid : Nat → Int64} {z : Int32 × Int32 × (Nat → Int32)} (C : cx p s m args meth c cX3_adoptAll 5 (some .int) RX3 D cy A) (hf : f_X3_adoptAll_J23 v1 v2 m_h_unknowns m_h_divisor m_h_rules_bits m_h_rules_unit m_h_rules_top m_h_rules_misses m_h_grid = some z) (hP : va_P D vwCl [(h, .inr (3, [.ref q_h_rules, .ref q_h_codes, .ref q_h_volts, .ref q_h_grid, .int m_h_unknowns, .int m_h_size, .long m_h_divisor])), (q_h_rules, .inr (5, [.int m_h_rules_bits, .int m_h_rules_unit, .int m_h_rules_offset, .int m_h_rules_lean, .int m_h_rules_ref, .int m_h_rules_top, .ref q_h_rules_misses, .ref q_h_rules_resistors])), (q_h_rules_misses, aI cy 9 m_h_rules_misses), (q_h_grid, aJ cy 132 m_h_grid)] H) (hD : va_D A [(h, .inr (3, [.ref q_h_rules, .ref q_h_codes, .ref q_h_volts, .ref q_h_grid, .int m_h_unknowns, .int m_h_size, .long m_h_divisor])), (q_h_rules, .inr (5, [.int m_h_rules_bits, .int m_h_rules_unit, .int m_h_rules_offset, .int m_h_rules_lean, .int m_h_rules_ref, .int m_h_rules_top, .ref q_h_rules_misses, .ref q_h_rules_resistors])), (q_h_rules_misses, aI cy 9 m_h_rules_misses), (q_h_grid, aJ cy 132 m_h_grid)]) (hS : va_S A s.heap H locs) (hl : lv_has ls 5 [(0, .ref h), (1, .int v1), (2, .int v2)]) : W p l e ({ frames := 4, cells := 0, slots := 0, locals := 86 } : Room) s m args below meth c H locs 0 0 (MQ below (kqi D cy [(h, .inr (3, [.ref q_h_rules, .ref q_h_codes, .ref q_h_volts, .ref q_h_grid, .int m_h_unknowns, .int m_h_size, .long m_h_divisor])), (q_h_rules, .inr (5, [.int m_h_rules_bits, .int m_h_rules_unit, .int z.2.1, .int m_h_rules_lean, .int m_h_rules_ref, .int m_h_rules_top, .ref q_h_rules_misses, .ref q_h_rules_resistors])), (q_h_rules_misses, aI cy 9 z.2.2), (q_h_grid, aJ cy 132 m_h_grid)] z.1 A) args s 0 0 A) (F0 m 23 ls []) := by
  obtain ⟨hx, hb, hr, hml, hown, hts, hlk, hK, hA, hN⟩ := id C
  unfold f_X3_adoptAll_J23 at hf
  refine lv_aload_n hx hb dX3_adoptAll_23 rfl (lv_at hl 0 rfl) ?_
  refine va_get (D := D) (ci := 3) (v := .ref q_h_rules) (C := RX3) (T := TX3) (N := 7) hx hb hts ui_X3 hown hK hP 0 rfl rfl 0 (by decide) (hts _ fl_X3_35) (fun _ h9 => h9) rfl dX3_adoptAll_24 ?_
  refine lv_iload_n hx hb dX3_adoptAll_27 rfl (lv_at hl 2 rfl) ?_
  refine va_put (D := D) (ci := 5) (v := .int v2) (ty := .int) (C := RX5) (T := TX5) (N := 8) hx hb hts ui_X5 tyX5 tyX5_ok nmX5 hown hK hP hD hS 1 rfl rfl 2 (by decide) (hts _ fl_X3_106) (fun _ h9 => h9) rfl rfl rfl rfl (Nat.le_of_ble_eq_true rfl) dX3_adoptAll_28 (fun H locs hP hD hS => ?_)
  have hP : va_P D vwCl [(h, .inr (3, [.ref q_h_rules, .ref q_h_codes, .ref q_h_volts, .ref q_h_grid, .int m_h_unknowns, .int m_h_size, .long m_h_divisor])), (q_h_rules, .inr (5, [.int m_h_rules_bits, .int m_h_rules_unit, .int v2, .int m_h_rules_lean, .int m_h_rules_ref, .int m_h_rules_top, .ref q_h_rules_misses, .ref q_h_rules_resistors])), (q_h_rules_misses, aI cy 9 m_h_rules_misses), (q_h_grid, aJ cy 132 m_h_grid)] H := hP
  have hD : va_D A [(h, .inr (3, [.ref q_h_rules, .ref q_h_codes, .ref q_h_volts, .ref q_h_grid, .int m_h_unknowns, .int m_h_size, .long m_h_divisor])), (q_h_rules, .inr (5, [.int m_h_rules_bits, .int m_h_rules_unit, .int v2, .int m_h_rules_lean, .int m_h_rules_ref, .int m_h_rules_top, .ref q_h_rules_misses, .ref q_h_rules_resistors])), (q_h_rules_misses, aI cy 9 m_h_rules_misses), (q_h_grid, aJ cy 132 m_h_grid)] := hD
  refine lv_iconst (v := 0) hx hb dX3_adoptAll_31 (by decide) ?_
  refine lv_istore_n (lv' := [(3, .int (0 : Int32)), (0, .ref h), (1, .int v1), (2, .int v2)]) hx hb dX3_adoptAll_32 rfl hl (by decide) rfl (fun ls hl => ?_)
  obtain ⟨z33, hz33, hf⟩ := zb_of hf
  refine kl_X3_adoptAll_L33 C _ _ _ _ _ _ hz33 hP hD hS (lv_sub hl [1, 2, 0] rfl) (fun H locs ls h0 hP hD hS hl => ?_)
  refine lv_iload_n hx hb dX3_adoptAll_85 rfl (lv_at hl 0 rfl) ?_
  obtain rfl := Option.some.inj hf
  exact ret_i C hP hD hS dX3_adoptAll_86
def f_X3_adoptAll (m_h_unknowns : Int32) (m_h_divisor : Int64) (m_h_rules_bits : Int32) (m_h_rules_unit : Int32) (m_h_rules_offset : Int32) (m_h_rules_top : Int32) (m_h_rules_misses : Nat → Int32) (m_h_grid : Nat → Int64) : Option (Int32 × Int32 × (Nat → Int32)) :=
  zb (f_X3_newRule (0 : Int32) m_h_unknowns m_h_divisor m_h_rules_bits m_h_rules_unit m_h_rules_top m_h_grid) fun z4 =>
  zl (z4.toInt32) fun x8 =>
  if x8 = m_h_rules_offset then
    f_X3_adoptAll_J23 (0 : Int32) x8 m_h_unknowns m_h_divisor m_h_rules_bits m_h_rules_unit m_h_rules_top m_h_rules_misses m_h_grid
  else
    zl ((0 : Int32) + (1 : Int32)) fun x20 =>
    f_X3_adoptAll_J23 x20 x8 m_h_unknowns m_h_divisor m_h_rules_bits m_h_rules_unit m_h_rules_top m_h_rules_misses m_h_grid
set_option maxHeartbeats 4000000 in
set_option maxRecDepth 100000 in
theorem k_X3_adoptAll {h q_h_rules q_h_codes q_h_volts q_h_grid q_h_rules_misses q_h_rules_resistors : Nat} {m_h_unknowns : Int32} {m_h_size : Int32} {m_h_divisor : Int64} {m_h_rules_bits : Int32} {m_h_rules_unit : Int32} {m_h_rules_offset : Int32} {m_h_rules_lean : Int32} {m_h_rules_ref : Int32} {m_h_rules_top : Int32} {m_h_rules_misses : Nat → Int32} {m_h_grid : Nat → Int64} {z : Int32 × Int32 × (Nat → Int32)} (C : cx p s m args meth c cX3_adoptAll 5 (some .int) RX3 D cy A) (hf : f_X3_adoptAll m_h_unknowns m_h_divisor m_h_rules_bits m_h_rules_unit m_h_rules_offset m_h_rules_top m_h_rules_misses m_h_grid = some z) (hP : va_P D vwCl [(h, .inr (3, [.ref q_h_rules, .ref q_h_codes, .ref q_h_volts, .ref q_h_grid, .int m_h_unknowns, .int m_h_size, .long m_h_divisor])), (q_h_rules, .inr (5, [.int m_h_rules_bits, .int m_h_rules_unit, .int m_h_rules_offset, .int m_h_rules_lean, .int m_h_rules_ref, .int m_h_rules_top, .ref q_h_rules_misses, .ref q_h_rules_resistors])), (q_h_rules_misses, aI cy 9 m_h_rules_misses), (q_h_grid, aJ cy 132 m_h_grid)] H) (hD : va_D A [(h, .inr (3, [.ref q_h_rules, .ref q_h_codes, .ref q_h_volts, .ref q_h_grid, .int m_h_unknowns, .int m_h_size, .long m_h_divisor])), (q_h_rules, .inr (5, [.int m_h_rules_bits, .int m_h_rules_unit, .int m_h_rules_offset, .int m_h_rules_lean, .int m_h_rules_ref, .int m_h_rules_top, .ref q_h_rules_misses, .ref q_h_rules_resistors])), (q_h_rules_misses, aI cy 9 m_h_rules_misses), (q_h_grid, aJ cy 132 m_h_grid)]) (hS : va_S A s.heap H locs) (hl : lv_has ls 5 [(0, .ref h)]) : W p l e ({ frames := 4, cells := 0, slots := 0, locals := 86 } : Room) s m args below meth c H locs 0 0 (MQ below (kqi D cy [(h, .inr (3, [.ref q_h_rules, .ref q_h_codes, .ref q_h_volts, .ref q_h_grid, .int m_h_unknowns, .int m_h_size, .long m_h_divisor])), (q_h_rules, .inr (5, [.int m_h_rules_bits, .int m_h_rules_unit, .int z.2.1, .int m_h_rules_lean, .int m_h_rules_ref, .int m_h_rules_top, .ref q_h_rules_misses, .ref q_h_rules_resistors])), (q_h_rules_misses, aI cy 9 z.2.2), (q_h_grid, aJ cy 132 m_h_grid)] z.1 A) args s 0 0 A) (F0 m 0 ls []) := by
  obtain ⟨hx, hb, hr, hml, hown, hts, hlk, hK, hA, hN⟩ := id C
  unfold f_X3_adoptAll at hf
  refine lv_iconst (v := 0) hx hb dX3_adoptAll_0 (by decide) ?_
  refine lv_istore_n (lv' := [(1, .int (0 : Int32)), (0, .ref h)]) hx hb dX3_adoptAll_1 rfl hl (by decide) rfl (fun ls hl => ?_)
  refine lv_aload_n hx hb dX3_adoptAll_2 rfl (lv_at hl 1 rfl) ?_
  refine lv_iconst (v := 0) hx hb dX3_adoptAll_3 (by decide) ?_
  obtain ⟨z4, hz4, hf⟩ := zb_of hf
  refine goL (wr := [(q_h_rules_misses, aI cy 9 m_h_rules_misses)]) (ws' := [(h, .inr (3, [.ref q_h_rules, .ref q_h_codes, .ref q_h_volts, .ref q_h_grid, .int m_h_unknowns, .int m_h_size, .long m_h_divisor])), (q_h_rules, .inr (5, [.int m_h_rules_bits, .int m_h_rules_unit, .int m_h_rules_offset, .int m_h_rules_lean, .int m_h_rules_ref, .int m_h_rules_top, .ref q_h_rules_misses, .ref q_h_rules_resistors])), (q_h_rules_misses, aI cy 9 m_h_rules_misses), (q_h_grid, aJ cy 132 m_h_grid)]) C (runV (n := 1) (As := [.int (0 : Int32)]) (rest := []) C (c_X3_newRule l D cy H.size h q_h_rules q_h_codes q_h_volts q_h_grid q_h_rules_misses q_h_rules_resistors (0 : Int32) m_h_unknowns m_h_size m_h_divisor m_h_rules_bits m_h_rules_unit m_h_rules_offset m_h_rules_lean m_h_rules_ref m_h_rules_top m_h_grid hz4) ml_X3_96 im_X3_newRule se_X3_newRule ii_X3 cd_X3_newRule hd_X3_newRule rfl rfl ⟨Nat.le_of_ble_eq_true rfl, Nat.le_of_ble_eq_true rfl⟩ (hP.sub [0, 1, 3] rfl) (hD.sub [0, 1, 3] (by decide) rfl) hS rfl rfl rfl hl.1 rfl (Nat.le_of_ble_eq_true rfl) dX3_adoptAll_4) hP hD hS [0, 1, 3] [2] [1, 2, 0, 3] rfl rfl (by decide) (by decide) rfl (by decide) (fun H locs hP hD hS => ?_)
  refine lv_l2i hx hb dX3_adoptAll_7 rfl ?_
  refine lv_topi (fun x8 ex8 => ?_)
  have hf := zl_of hf x8 ex8
  refine lv_istore_n (lv' := [(2, .int x8), (1, .int (0 : Int32)), (0, .ref h)]) hx hb dX3_adoptAll_8 rfl hl (by decide) rfl (fun ls hl => ?_)
  refine lv_iload_n hx hb dX3_adoptAll_9 rfl (lv_at hl 0 rfl) ?_
  refine lv_aload_n hx hb dX3_adoptAll_10 rfl (lv_at hl 2 rfl) ?_
  refine va_get (D := D) (ci := 3) (v := .ref q_h_rules) (C := RX3) (T := TX3) (N := 7) hx hb hts ui_X3 hown hK hP 0 rfl rfl 0 (by decide) (hts _ fl_X3_35) (fun _ h9 => h9) rfl dX3_adoptAll_11 ?_
  refine va_get (D := D) (ci := 5) (v := .int m_h_rules_offset) (C := RX5) (T := TX5) (N := 8) hx hb hts ui_X5 hown hK hP 1 rfl rfl 2 (by decide) (hts _ fl_X3_106) (fun _ h9 => h9) rfl dX3_adoptAll_14 ?_
  refine lv_icmp_eq (tgt := 23) hx hb dX3_adoptAll_17 (by decide) (fun c17 => ?_) (fun c17 => ?_)
  · have hf := zt c17 hf
    exact k_X3_adoptAll_J23 C hf hP hD hS (lv_sub hl [2, 1, 0] rfl)
  · have hf := zf c17 hf
    obtain ⟨x20, ex20⟩ : ∃ y : Int32, y = (0 : Int32) + (1 : Int32) := ⟨_, rfl⟩
    have hf := zl_of hf x20 ex20
    refine lv_iinc (v := x20) (lv' := [(1, .int x20), (2, .int x8), (0, .ref h)]) hx hb dX3_adoptAll_20 hl (k := 1) rfl (by rw [ex20]; rfl) (by decide) rfl (fun ls hl => ?_)
    exact k_X3_adoptAll_J23 C hf hP hD hS (lv_sub hl [2, 0, 1] rfl)
set_option maxRecDepth 100000 in
theorem c_X3_adoptAll (l : Launch) (D : va_G) (cy : Nat → ClassId) (sz : Nat) (h q_h_rules q_h_codes q_h_volts q_h_grid q_h_rules_misses q_h_rules_resistors : Nat) (m_h_unknowns : Int32) (m_h_size : Int32) (m_h_divisor : Int64) (m_h_rules_bits : Int32) (m_h_rules_unit : Int32) (m_h_rules_offset : Int32) (m_h_rules_lean : Int32) (m_h_rules_ref : Int32) (m_h_rules_top : Int32) (m_h_rules_misses : Nat → Int32) (m_h_grid : Nat → Int64) {z : Int32 × Int32 × (Nat → Int32)} (hf : f_X3_adoptAll m_h_unknowns m_h_divisor m_h_rules_bits m_h_rules_unit m_h_rules_offset m_h_rules_top m_h_rules_misses m_h_grid = some z) : Met l yX3_adoptAll (.code yX3_adoptAll cX3_adoptAll 5 (some .int) :: tb) ({ frames := 4, cells := 0, slots := 0, locals := 86 } : Room) (kp D cy sz [.ref h] [(h, .inr (3, [.ref q_h_rules, .ref q_h_codes, .ref q_h_volts, .ref q_h_grid, .int m_h_unknowns, .int m_h_size, .long m_h_divisor])), (q_h_rules, .inr (5, [.int m_h_rules_bits, .int m_h_rules_unit, .int m_h_rules_offset, .int m_h_rules_lean, .int m_h_rules_ref, .int m_h_rules_top, .ref q_h_rules_misses, .ref q_h_rules_resistors])), (q_h_rules_misses, aI cy 9 m_h_rules_misses), (q_h_grid, aJ cy 132 m_h_grid)]) (kqi D cy [(h, .inr (3, [.ref q_h_rules, .ref q_h_codes, .ref q_h_volts, .ref q_h_grid, .int m_h_unknowns, .int m_h_size, .long m_h_divisor])), (q_h_rules, .inr (5, [.int m_h_rules_bits, .int m_h_rules_unit, .int z.2.1, .int m_h_rules_lean, .int m_h_rules_ref, .int m_h_rules_top, .ref q_h_rules_misses, .ref q_h_rules_resistors])), (q_h_rules_misses, aI cy 9 z.2.2), (q_h_grid, aJ cy 132 m_h_grid)] z.1 (va_A [(h, .inr (3, [.ref q_h_rules, .ref q_h_codes, .ref q_h_volts, .ref q_h_grid, .int m_h_unknowns, .int m_h_size, .long m_h_divisor])), (q_h_rules, .inr (5, [.int m_h_rules_bits, .int m_h_rules_unit, .int m_h_rules_offset, .int m_h_rules_lean, .int m_h_rules_ref, .int m_h_rules_top, .ref q_h_rules_misses, .ref q_h_rules_resistors])), (q_h_rules_misses, aI cy 9 m_h_rules_misses), (q_h_grid, aJ cy 132 m_h_grid)] sz)) 0 0 (va_A [(h, .inr (3, [.ref q_h_rules, .ref q_h_codes, .ref q_h_volts, .ref q_h_grid, .int m_h_unknowns, .int m_h_size, .long m_h_divisor])), (q_h_rules, .inr (5, [.int m_h_rules_bits, .int m_h_rules_unit, .int m_h_rules_offset, .int m_h_rules_lean, .int m_h_rules_ref, .int m_h_rules_top, .ref q_h_rules_misses, .ref q_h_rules_resistors])), (q_h_rules_misses, aI cy 9 m_h_rules_misses), (q_h_grid, aJ cy 132 m_h_grid)] sz) :=
  met_of (fun A => kqi D cy [(h, .inr (3, [.ref q_h_rules, .ref q_h_codes, .ref q_h_volts, .ref q_h_grid, .int m_h_unknowns, .int m_h_size, .long m_h_divisor])), (q_h_rules, .inr (5, [.int m_h_rules_bits, .int m_h_rules_unit, .int z.2.1, .int m_h_rules_lean, .int m_h_rules_ref, .int m_h_rules_top, .ref q_h_rules_misses, .ref q_h_rules_resistors])), (q_h_rules_misses, aI cy 9 z.2.2), (q_h_grid, aJ cy 132 m_h_grid)] z.1 A) (by decide +kernel) (Nat.le_of_ble_eq_true rfl) (fun p e s m below meth c A ls C hP hD hS hl => k_X3_adoptAll C hf hP hD hS hl)
theorem hd_X3_adoptAll : yX3_adoptAll.cls ≠ "java/lang/invoke/MethodHandle" ∧ yX3_adoptAll.cls ≠ "java/lang/invoke/VarHandle" ∧ (parseMethodDescriptor yX3_adoptAll.desc).map (fun d => d.parameters.length) = some 0 := by decide +kernel
def f_X3_put_L2 (v1 : Int32) (m_h_size : Int32) (m_h_codes : Nat → Int32) (w : Int32) : Option (Nat × (Int32)) :=
  if m_h_size ≤ w then
    some (1, w)
  else
    zb (f_X3_codeAt w m_h_codes) fun z12 =>
    if z12 = v1 then
      some (1, w)
    else
      zl (w + (1 : Int32)) fun x19 =>
      some (0, x19)
set_option maxHeartbeats 4000000 in
set_option maxRecDepth 100000 in
theorem k_X3_put_L2 {h q_h_rules q_h_codes q_h_volts q_h_grid : Nat} {v1 : Int32} {v2 : Int32} {m_h_unknowns : Int32} {m_h_size : Int32} {m_h_divisor : Int64} {m_h_codes : Nat → Int32} {m_h_volts : Nat → Int32} {w : Int32} {z : Nat × (Int32)} (C : cx p s m args meth c cX3_put 4 (some .boolean) RX3 D cy A) (hf : f_X3_put_L2 v1 m_h_size m_h_codes w = some z) (hP : va_P D vwCl [(h, .inr (3, [.ref q_h_rules, .ref q_h_codes, .ref q_h_volts, .ref q_h_grid, .int m_h_unknowns, .int m_h_size, .long m_h_divisor])), (q_h_codes, aI cy 12 m_h_codes), (q_h_volts, aI cy 12 m_h_volts)] H) (hD : va_D A [(h, .inr (3, [.ref q_h_rules, .ref q_h_codes, .ref q_h_volts, .ref q_h_grid, .int m_h_unknowns, .int m_h_size, .long m_h_divisor])), (q_h_codes, aI cy 12 m_h_codes), (q_h_volts, aI cy 12 m_h_volts)]) (hS : va_S A s.heap H locs) (hl : lv_has ls 4 [(0, .ref h), (1, .int v1), (2, .int v2), (3, .int w)]) (hE0 : ∀ (H : Heap) (locs : List Loc) (ls : Array Slot), z.1 = 0 → va_P D vwCl [(h, .inr (3, [.ref q_h_rules, .ref q_h_codes, .ref q_h_volts, .ref q_h_grid, .int m_h_unknowns, .int m_h_size, .long m_h_divisor])), (q_h_codes, aI cy 12 m_h_codes), (q_h_volts, aI cy 12 m_h_volts)] H → va_D A [(h, .inr (3, [.ref q_h_rules, .ref q_h_codes, .ref q_h_volts, .ref q_h_grid, .int m_h_unknowns, .int m_h_size, .long m_h_divisor])), (q_h_codes, aI cy 12 m_h_codes), (q_h_volts, aI cy 12 m_h_volts)] → va_S A s.heap H locs → lv_has ls 4 [(0, .ref h), (1, .int v1), (2, .int v2), (3, .int z.2)] → W p l e ({ frames := 1, cells := 0, slots := 0, locals := 21 } : Room) s m args below meth c H locs 0 0 Q (F0 m 2 ls [])) (hE1 : ∀ (H : Heap) (locs : List Loc) (ls : Array Slot), z.1 = 1 → va_P D vwCl [(h, .inr (3, [.ref q_h_rules, .ref q_h_codes, .ref q_h_volts, .ref q_h_grid, .int m_h_unknowns, .int m_h_size, .long m_h_divisor])), (q_h_codes, aI cy 12 m_h_codes), (q_h_volts, aI cy 12 m_h_volts)] H → va_D A [(h, .inr (3, [.ref q_h_rules, .ref q_h_codes, .ref q_h_volts, .ref q_h_grid, .int m_h_unknowns, .int m_h_size, .long m_h_divisor])), (q_h_codes, aI cy 12 m_h_codes), (q_h_volts, aI cy 12 m_h_volts)] → va_S A s.heap H locs → lv_has ls 4 [(0, .ref h), (1, .int v1), (2, .int v2), (3, .int z.2)] → W p l e ({ frames := 1, cells := 0, slots := 0, locals := 21 } : Room) s m args below meth c H locs 0 0 Q (F0 m 25 ls [])) : W p l e ({ frames := 1, cells := 0, slots := 0, locals := 21 } : Room) s m args below meth c H locs 0 0 Q (F0 m 2 ls []) := by
  obtain ⟨hx, hb, hr, hml, hown, hts, hlk, hK, hA, hN⟩ := id C
  unfold f_X3_put_L2 at hf
  refine lv_iload_n hx hb dX3_put_2 rfl (lv_at hl 3 rfl) ?_
  refine lv_aload_n hx hb dX3_put_3 rfl (lv_at hl 0 rfl) ?_
  refine va_get (D := D) (ci := 3) (v := .int m_h_size) (C := RX3) (T := TX3) (N := 7) hx hb hts ui_X3 hown hK hP 0 rfl rfl 5 (by decide) (hts _ fl_X3_28) (fun _ h9 => h9) rfl dX3_put_4 ?_
  refine lv_icmp_ge (tgt := 25) hx hb dX3_put_7 (by decide) (fun c7 => ?_) (fun c7 => ?_)
  · have hf := zt c7 hf
    obtain rfl := Option.some.inj hf
    exact hE1 _ _ _ rfl hP hD hS (lv_sub hl [0, 1, 2, 3] rfl)
  · have hf := zf c7 hf
    refine lv_aload_n hx hb dX3_put_10 rfl (lv_at hl 0 rfl) ?_
    refine lv_iload_n hx hb dX3_put_11 rfl (lv_at hl 3 rfl) ?_
    obtain ⟨z12, hz12, hf⟩ := zb_of hf
    refine goI (wr := [(q_h_volts, aI cy 12 m_h_volts)]) (ws' := [(h, .inr (3, [.ref q_h_rules, .ref q_h_codes, .ref q_h_volts, .ref q_h_grid, .int m_h_unknowns, .int m_h_size, .long m_h_divisor])), (q_h_codes, aI cy 12 m_h_codes), (q_h_volts, aI cy 12 m_h_volts)]) C (runV (n := 1) (As := [.int w]) (rest := []) C (c_X3_codeAt l D cy H.size h q_h_rules q_h_codes q_h_volts q_h_grid w m_h_unknowns m_h_size m_h_divisor m_h_codes hz12) ml_X3_39 im_X3_codeAt se_X3_codeAt ii_X3 cd_X3_codeAt hd_X3_codeAt rfl rfl ⟨Nat.le_of_ble_eq_true rfl, Nat.le_of_ble_eq_true rfl⟩ (hP.sub [0, 1] rfl) (hD.sub [0, 1] (by decide) rfl) hS rfl rfl rfl hl.1 rfl (Nat.le_of_ble_eq_true rfl) dX3_put_12) hP hD hS [0, 1] [2] [1, 2, 0] rfl rfl (by decide) (by decide) rfl (by decide) (fun H locs hP hD hS => ?_)
    refine lv_iload_n hx hb dX3_put_15 rfl (lv_at hl 1 rfl) ?_
    refine lv_icmp_eq (tgt := 25) hx hb dX3_put_16 (by decide) (fun c16 => ?_) (fun c16 => ?_)
    · have hf := zt c16 hf
      obtain rfl := Option.some.inj hf
      exact hE1 _ _ _ rfl hP hD hS (lv_sub hl [0, 1, 2, 3] rfl)
    · have hf := zf c16 hf
      obtain ⟨x19, ex19⟩ : ∃ y : Int32, y = w + (1 : Int32) := ⟨_, rfl⟩
      have hf := zl_of hf x19 ex19
      refine lv_iinc (v := x19) (lv' := [(3, .int x19), (0, .ref h), (1, .int v1), (2, .int v2)]) hx hb dX3_put_19 hl (k := 3) rfl (by rw [ex19]; rfl) (by decide) rfl (fun ls hl => ?_)
      refine lv_goto (tgt := 2) hx hb dX3_put_22 (by decide) ?_
      obtain rfl := Option.some.inj hf
      exact hE0 _ _ _ rfl hP hD hS (lv_sub hl [1, 2, 3, 0] rfl)
set_option maxHeartbeats 4000000 in
set_option maxRecDepth 100000 in
theorem kl_X3_put_L2 {h q_h_rules q_h_codes q_h_volts q_h_grid : Nat} {v1 : Int32} {v2 : Int32} {m_h_unknowns : Int32} {m_h_size : Int32} {m_h_divisor : Int64} {m_h_codes : Nat → Int32} {m_h_volts : Nat → Int32} (C : cx p s m args meth c cX3_put 4 (some .boolean) RX3 D cy A) : ∀ (n : Nat) (w : Int32) (z : Nat × (Int32)) (H : Heap) (locs : List Loc) (ls : Array Slot), zp (f_X3_put_L2 v1 m_h_size m_h_codes) n w = some z → va_P D vwCl [(h, .inr (3, [.ref q_h_rules, .ref q_h_codes, .ref q_h_volts, .ref q_h_grid, .int m_h_unknowns, .int m_h_size, .long m_h_divisor])), (q_h_codes, aI cy 12 m_h_codes), (q_h_volts, aI cy 12 m_h_volts)] H → va_D A [(h, .inr (3, [.ref q_h_rules, .ref q_h_codes, .ref q_h_volts, .ref q_h_grid, .int m_h_unknowns, .int m_h_size, .long m_h_divisor])), (q_h_codes, aI cy 12 m_h_codes), (q_h_volts, aI cy 12 m_h_volts)] → va_S A s.heap H locs → lv_has ls 4 [(0, .ref h), (1, .int v1), (2, .int v2), (3, .int w)] → (∀ (H : Heap) (locs : List Loc) (ls : Array Slot), z.1 = 1 → va_P D vwCl [(h, .inr (3, [.ref q_h_rules, .ref q_h_codes, .ref q_h_volts, .ref q_h_grid, .int m_h_unknowns, .int m_h_size, .long m_h_divisor])), (q_h_codes, aI cy 12 m_h_codes), (q_h_volts, aI cy 12 m_h_volts)] H → va_D A [(h, .inr (3, [.ref q_h_rules, .ref q_h_codes, .ref q_h_volts, .ref q_h_grid, .int m_h_unknowns, .int m_h_size, .long m_h_divisor])), (q_h_codes, aI cy 12 m_h_codes), (q_h_volts, aI cy 12 m_h_volts)] → va_S A s.heap H locs → lv_has ls 4 [(0, .ref h), (1, .int v1), (2, .int v2), (3, .int z.2)] → W p l e ({ frames := 1, cells := 0, slots := 0, locals := 21 } : Room) s m args below meth c H locs 0 0 Q (F0 m 25 ls [])) → W p l e ({ frames := 1, cells := 0, slots := 0, locals := 21 } : Room) s m args below meth c H locs 0 0 Q (F0 m 2 ls []) := by
  intro n
  induction n with
  | zero => intro w z H locs ls hf; cases hf
  | succ n ih =>
    intro w z H locs ls hf hP hD hS hl hE1
    obtain ⟨w1, hw, hd⟩ := zp_s hf
    refine k_X3_put_L2 C hw hP hD hS hl (fun H locs ls h0 hP hD hS hl => ?_) (fun H locs ls h0 hP hD hS hl => ?_)
    · rcases hd with ⟨_, h⟩ | ⟨h, _⟩
      · exact ih _ _ _ _ _ h hP hD hS hl hE1
      · exact absurd h0 h
    · rcases hd with ⟨h, _⟩ | ⟨_, h⟩
      · exact absurd (h.symm.trans h0) (by decide)
      · subst h; exact hE1 _ _ _ h0 hP hD hS hl
def f_X3_put_J25 (v1 : Int32) (v2 : Int32) (v3 : Int32) (m_h_size : Int32) (m_h_codes : Nat → Int32) (m_h_volts : Nat → Int32) : Option (Int32 × Int32 × (Nat → Int32) × (Nat → Int32)) :=
  if (12 : Int32) ≤ v3 then
    some ((0 : Int32), m_h_size, m_h_codes, m_h_volts)
  else
    if v3 < (12 : Int32) then
      zc v3 12 <|
      zl (upd m_h_codes v3.toNatClampNeg v1) fun a51 =>
      zc v3 12 <|
      zl (upd m_h_volts v3.toNatClampNeg v2) fun a58 =>
      zb (f_J9_max_7cf53 m_h_size (v3 + (1 : Int32))) fun z67 =>
      some ((1 : Int32), z67, a51, a58)
    else
      some ((0 : Int32), m_h_size, m_h_codes, m_h_volts)
set_option maxHeartbeats 4000000 in
set_option maxRecDepth 100000 in
theorem k_X3_put_J25 {h q_h_rules q_h_codes q_h_volts q_h_grid : Nat} {v1 : Int32} {v2 : Int32} {v3 : Int32} {m_h_unknowns : Int32} {m_h_size : Int32} {m_h_divisor : Int64} {m_h_codes : Nat → Int32} {m_h_volts : Nat → Int32} {z : Int32 × Int32 × (Nat → Int32) × (Nat → Int32)} (C : cx p s m args meth c cX3_put 4 (some .boolean) RX3 D cy A) (hf : f_X3_put_J25 v1 v2 v3 m_h_size m_h_codes m_h_volts = some z) (hP : va_P D vwCl [(h, .inr (3, [.ref q_h_rules, .ref q_h_codes, .ref q_h_volts, .ref q_h_grid, .int m_h_unknowns, .int m_h_size, .long m_h_divisor])), (q_h_codes, aI cy 12 m_h_codes), (q_h_volts, aI cy 12 m_h_volts)] H) (hD : va_D A [(h, .inr (3, [.ref q_h_rules, .ref q_h_codes, .ref q_h_volts, .ref q_h_grid, .int m_h_unknowns, .int m_h_size, .long m_h_divisor])), (q_h_codes, aI cy 12 m_h_codes), (q_h_volts, aI cy 12 m_h_volts)]) (hS : va_S A s.heap H locs) (hl : lv_has ls 4 [(0, .ref h), (1, .int v1), (2, .int v2), (3, .int v3)]) : W p l e ({ frames := 1, cells := 0, slots := 0, locals := 21 } : Room) s m args below meth c H locs 0 0 (MQ below (kqz D cy [(h, .inr (3, [.ref q_h_rules, .ref q_h_codes, .ref q_h_volts, .ref q_h_grid, .int m_h_unknowns, .int z.2.1, .long m_h_divisor])), (q_h_codes, aI cy 12 z.2.2.1), (q_h_volts, aI cy 12 z.2.2.2)] z.1 A) args s 0 0 A) (F0 m 25 ls []) := by
  obtain ⟨hx, hb, hr, hml, hown, hts, hlk, hK, hA, hN⟩ := id C
  unfold f_X3_put_J25 at hf
  refine lv_iload_n hx hb dX3_put_25 rfl (lv_at hl 3 rfl) ?_
  refine lv_aload_n hx hb dX3_put_26 rfl (lv_at hl 0 rfl) ?_
  refine va_get (D := D) (ci := 3) (v := .ref q_h_codes) (C := RX3) (T := TX3) (N := 7) hx hb hts ui_X3 hown hK hP 0 rfl rfl 1 (by decide) (hts _ fl_X3_13) (fun _ h9 => h9) rfl dX3_put_27 ?_
  refine va_alen (v := (12 : Int32)) hx hb hK hP 1 1 rfl rfl rfl dX3_put_30 ?_
  refine lv_icmp_ge (tgt := 43) hx hb dX3_put_31 (by decide) (fun c31 => ?_) (fun c31 => ?_)
  · have hf := zt c31 hf
    refine lv_iconst (v := 0) hx hb dX3_put_43 (by decide) ?_
    obtain rfl := Option.some.inj hf
    exact ret_z (v := (0 : Int32)) C rfl hP hD hS dX3_put_44
  · have hf := zf c31 hf
    refine lv_iload_n hx hb dX3_put_34 rfl (lv_at hl 3 rfl) ?_
    refine lv_aload_n hx hb dX3_put_35 rfl (lv_at hl 0 rfl) ?_
    refine va_get (D := D) (ci := 3) (v := .ref q_h_volts) (C := RX3) (T := TX3) (N := 7) hx hb hts ui_X3 hown hK hP 0 rfl rfl 2 (by decide) (hts _ fl_X3_17) (fun _ h9 => h9) rfl dX3_put_36 ?_
    refine va_alen (v := (12 : Int32)) hx hb hK hP 2 1 rfl rfl rfl dX3_put_39 ?_
    refine lv_icmp_lt (tgt := 45) hx hb dX3_put_40 (by decide) (fun c40 => ?_) (fun c40 => ?_)
    · have hf := zt c40 hf
      refine lv_aload_n hx hb dX3_put_45 rfl (lv_at hl 0 rfl) ?_
      refine va_get (D := D) (ci := 3) (v := .ref q_h_codes) (C := RX3) (T := TX3) (N := 7) hx hb hts ui_X3 hown hK hP 0 rfl rfl 1 (by decide) (hts _ fl_X3_13) (fun _ h9 => h9) rfl dX3_put_46 ?_
      refine lv_iload_n hx hb dX3_put_49 rfl (lv_at hl 3 rfl) ?_
      refine lv_iload_n hx hb dX3_put_50 rfl (lv_at hl 1 rfl) ?_
      obtain ⟨hin, hf⟩ := zc_of hf
      obtain ⟨a51, ea51⟩ : ∃ y : Nat → Int32, y = upd m_h_codes v3.toNatClampNeg v1 := ⟨_, rfl⟩
      have hf := zl_of hf a51 ea51
      refine va_iast hx hb hK hP hD hS 1 1 rfl rfl hin dX3_put_51 (fun H locs hP hD hS => ?_)
      rw [← ea51] at hP hD
      have hP : va_P D vwCl [(h, .inr (3, [.ref q_h_rules, .ref q_h_codes, .ref q_h_volts, .ref q_h_grid, .int m_h_unknowns, .int m_h_size, .long m_h_divisor])), (q_h_codes, aI cy 12 a51), (q_h_volts, aI cy 12 m_h_volts)] H := hP
      have hD : va_D A [(h, .inr (3, [.ref q_h_rules, .ref q_h_codes, .ref q_h_volts, .ref q_h_grid, .int m_h_unknowns, .int m_h_size, .long m_h_divisor])), (q_h_codes, aI cy 12 a51), (q_h_volts, aI cy 12 m_h_volts)] := hD
      refine lv_aload_n hx hb dX3_put_52 rfl (lv_at hl 0 rfl) ?_
      refine va_get (D := D) (ci := 3) (v := .ref q_h_volts) (C := RX3) (T := TX3) (N := 7) hx hb hts ui_X3 hown hK hP 0 rfl rfl 2 (by decide) (hts _ fl_X3_17) (fun _ h9 => h9) rfl dX3_put_53 ?_
      refine lv_iload_n hx hb dX3_put_56 rfl (lv_at hl 3 rfl) ?_
      refine lv_iload_n hx hb dX3_put_57 rfl (lv_at hl 2 rfl) ?_
      obtain ⟨hin, hf⟩ := zc_of hf
      obtain ⟨a58, ea58⟩ : ∃ y : Nat → Int32, y = upd m_h_volts v3.toNatClampNeg v2 := ⟨_, rfl⟩
      have hf := zl_of hf a58 ea58
      refine va_iast hx hb hK hP hD hS 2 1 rfl rfl hin dX3_put_58 (fun H locs hP hD hS => ?_)
      rw [← ea58] at hP hD
      have hP : va_P D vwCl [(h, .inr (3, [.ref q_h_rules, .ref q_h_codes, .ref q_h_volts, .ref q_h_grid, .int m_h_unknowns, .int m_h_size, .long m_h_divisor])), (q_h_codes, aI cy 12 a51), (q_h_volts, aI cy 12 a58)] H := hP
      have hD : va_D A [(h, .inr (3, [.ref q_h_rules, .ref q_h_codes, .ref q_h_volts, .ref q_h_grid, .int m_h_unknowns, .int m_h_size, .long m_h_divisor])), (q_h_codes, aI cy 12 a51), (q_h_volts, aI cy 12 a58)] := hD
      refine lv_aload_n hx hb dX3_put_59 rfl (lv_at hl 0 rfl) ?_
      refine lv_aload_n hx hb dX3_put_60 rfl (lv_at hl 0 rfl) ?_
      refine va_get (D := D) (ci := 3) (v := .int m_h_size) (C := RX3) (T := TX3) (N := 7) hx hb hts ui_X3 hown hK hP 0 rfl rfl 5 (by decide) (hts _ fl_X3_28) (fun _ h9 => h9) rfl dX3_put_61 ?_
      refine lv_iload_n hx hb dX3_put_64 rfl (lv_at hl 3 rfl) ?_
      refine lv_iconst (v := 1) hx hb dX3_put_65 (by decide) ?_
      refine lv_iadd hx hb dX3_put_66 ?_
      obtain ⟨z67, hz67, hf⟩ := zb_of hf
      refine goI (wr := [(h, .inr (3, [.ref q_h_rules, .ref q_h_codes, .ref q_h_volts, .ref q_h_grid, .int m_h_unknowns, .int m_h_size, .long m_h_divisor])), (q_h_codes, aI cy 12 a51), (q_h_volts, aI cy 12 a58)]) (ws' := [(h, .inr (3, [.ref q_h_rules, .ref q_h_codes, .ref q_h_volts, .ref q_h_grid, .int m_h_unknowns, .int m_h_size, .long m_h_divisor])), (q_h_codes, aI cy 12 a51), (q_h_volts, aI cy 12 a58)]) C (runS (n := 2) (As := [.int m_h_size, .int (v3 + (1 : Int32))]) (rest := [.ref h]) C (c_J9_max_7cf53 l D cy H.size m_h_size (v3 + (1 : Int32)) hz67) ml_X3_43 st_J9_max_7cf53 ii_J9 cd_J9_max_7cf53 hd_J9_max_7cf53 rfl rfl ⟨Nat.le_of_ble_eq_true rfl, Nat.le_of_ble_eq_true rfl⟩ (hP.sub [] rfl) (hD.sub [] (by decide) rfl) hS rfl hl.1 rfl (Nat.le_of_ble_eq_true rfl) dX3_put_67) hP hD hS [] [0, 1, 2] [0, 1, 2] rfl rfl (by decide) (by decide) rfl (by decide) (fun H locs hP hD hS => ?_)
      refine va_put (D := D) (ci := 3) (v := .int z67) (ty := .int) (C := RX3) (T := TX3) (N := 7) hx hb hts ui_X3 tyX3 tyX3_ok nmX3 hown hK hP hD hS 0 rfl rfl 5 (by decide) (hts _ fl_X3_28) (fun _ h9 => h9) rfl rfl rfl rfl (Nat.le_of_ble_eq_true rfl) dX3_put_70 (fun H locs hP hD hS => ?_)
      have hP : va_P D vwCl [(h, .inr (3, [.ref q_h_rules, .ref q_h_codes, .ref q_h_volts, .ref q_h_grid, .int m_h_unknowns, .int z67, .long m_h_divisor])), (q_h_codes, aI cy 12 a51), (q_h_volts, aI cy 12 a58)] H := hP
      have hD : va_D A [(h, .inr (3, [.ref q_h_rules, .ref q_h_codes, .ref q_h_volts, .ref q_h_grid, .int m_h_unknowns, .int z67, .long m_h_divisor])), (q_h_codes, aI cy 12 a51), (q_h_volts, aI cy 12 a58)] := hD
      refine lv_iconst (v := 1) hx hb dX3_put_73 (by decide) ?_
      obtain rfl := Option.some.inj hf
      exact ret_z (v := (1 : Int32)) C rfl hP hD hS dX3_put_74
    · have hf := zf c40 hf
      refine lv_iconst (v := 0) hx hb dX3_put_43 (by decide) ?_
      obtain rfl := Option.some.inj hf
      exact ret_z (v := (0 : Int32)) C rfl hP hD hS dX3_put_44
def f_X3_put (v1 : Int32) (v2 : Int32) (m_h_size : Int32) (m_h_codes : Nat → Int32) (m_h_volts : Nat → Int32) : Option (Int32 × Int32 × (Nat → Int32) × (Nat → Int32)) :=
  zb (zp (f_X3_put_L2 v1 m_h_size m_h_codes) zF (0 : Int32)) fun z2 =>
  f_X3_put_J25 v1 v2 z2.2 m_h_size m_h_codes m_h_volts
set_option maxHeartbeats 4000000 in
set_option maxRecDepth 100000 in
theorem k_X3_put {h q_h_rules q_h_codes q_h_volts q_h_grid : Nat} {v1 : Int32} {v2 : Int32} {m_h_unknowns : Int32} {m_h_size : Int32} {m_h_divisor : Int64} {m_h_codes : Nat → Int32} {m_h_volts : Nat → Int32} {z : Int32 × Int32 × (Nat → Int32) × (Nat → Int32)} (C : cx p s m args meth c cX3_put 4 (some .boolean) RX3 D cy A) (hf : f_X3_put v1 v2 m_h_size m_h_codes m_h_volts = some z) (hP : va_P D vwCl [(h, .inr (3, [.ref q_h_rules, .ref q_h_codes, .ref q_h_volts, .ref q_h_grid, .int m_h_unknowns, .int m_h_size, .long m_h_divisor])), (q_h_codes, aI cy 12 m_h_codes), (q_h_volts, aI cy 12 m_h_volts)] H) (hD : va_D A [(h, .inr (3, [.ref q_h_rules, .ref q_h_codes, .ref q_h_volts, .ref q_h_grid, .int m_h_unknowns, .int m_h_size, .long m_h_divisor])), (q_h_codes, aI cy 12 m_h_codes), (q_h_volts, aI cy 12 m_h_volts)]) (hS : va_S A s.heap H locs) (hl : lv_has ls 4 [(0, .ref h), (1, .int v1), (2, .int v2)]) : W p l e ({ frames := 1, cells := 0, slots := 0, locals := 21 } : Room) s m args below meth c H locs 0 0 (MQ below (kqz D cy [(h, .inr (3, [.ref q_h_rules, .ref q_h_codes, .ref q_h_volts, .ref q_h_grid, .int m_h_unknowns, .int z.2.1, .long m_h_divisor])), (q_h_codes, aI cy 12 z.2.2.1), (q_h_volts, aI cy 12 z.2.2.2)] z.1 A) args s 0 0 A) (F0 m 0 ls []) := by
  obtain ⟨hx, hb, hr, hml, hown, hts, hlk, hK, hA, hN⟩ := id C
  unfold f_X3_put at hf
  refine lv_iconst (v := 0) hx hb dX3_put_0 (by decide) ?_
  refine lv_istore_n (lv' := [(3, .int (0 : Int32)), (0, .ref h), (1, .int v1), (2, .int v2)]) hx hb dX3_put_1 rfl hl (by decide) rfl (fun ls hl => ?_)
  obtain ⟨z2, hz2, hf⟩ := zb_of hf
  refine kl_X3_put_L2 C _ _ _ _ _ _ hz2 hP hD hS (lv_sub hl [1, 2, 3, 0] rfl) (fun H locs ls h0 hP hD hS hl => ?_)
  exact k_X3_put_J25 C hf hP hD hS (lv_sub hl [0, 1, 2, 3] rfl)
set_option maxRecDepth 100000 in
theorem c_X3_put (l : Launch) (D : va_G) (cy : Nat → ClassId) (sz : Nat) (h q_h_rules q_h_codes q_h_volts q_h_grid : Nat) (v1 : Int32) (v2 : Int32) (m_h_unknowns : Int32) (m_h_size : Int32) (m_h_divisor : Int64) (m_h_codes : Nat → Int32) (m_h_volts : Nat → Int32) {z : Int32 × Int32 × (Nat → Int32) × (Nat → Int32)} (hf : f_X3_put v1 v2 m_h_size m_h_codes m_h_volts = some z) : Met l yX3_put (.code yX3_put cX3_put 4 (some .boolean) :: tb) ({ frames := 1, cells := 0, slots := 0, locals := 21 } : Room) (kp D cy sz [.ref h, .int v1, .int v2] [(h, .inr (3, [.ref q_h_rules, .ref q_h_codes, .ref q_h_volts, .ref q_h_grid, .int m_h_unknowns, .int m_h_size, .long m_h_divisor])), (q_h_codes, aI cy 12 m_h_codes), (q_h_volts, aI cy 12 m_h_volts)]) (kqz D cy [(h, .inr (3, [.ref q_h_rules, .ref q_h_codes, .ref q_h_volts, .ref q_h_grid, .int m_h_unknowns, .int z.2.1, .long m_h_divisor])), (q_h_codes, aI cy 12 z.2.2.1), (q_h_volts, aI cy 12 z.2.2.2)] z.1 (va_A [(h, .inr (3, [.ref q_h_rules, .ref q_h_codes, .ref q_h_volts, .ref q_h_grid, .int m_h_unknowns, .int m_h_size, .long m_h_divisor])), (q_h_codes, aI cy 12 m_h_codes), (q_h_volts, aI cy 12 m_h_volts)] sz)) 0 0 (va_A [(h, .inr (3, [.ref q_h_rules, .ref q_h_codes, .ref q_h_volts, .ref q_h_grid, .int m_h_unknowns, .int m_h_size, .long m_h_divisor])), (q_h_codes, aI cy 12 m_h_codes), (q_h_volts, aI cy 12 m_h_volts)] sz) :=
  met_of (fun A => kqz D cy [(h, .inr (3, [.ref q_h_rules, .ref q_h_codes, .ref q_h_volts, .ref q_h_grid, .int m_h_unknowns, .int z.2.1, .long m_h_divisor])), (q_h_codes, aI cy 12 z.2.2.1), (q_h_volts, aI cy 12 z.2.2.2)] z.1 A) (by decide +kernel) (Nat.le_of_ble_eq_true rfl) (fun p e s m below meth c A ls C hP hD hS hl => k_X3_put C hf hP hD hS hl)
theorem hd_X3_put : yX3_put.cls ≠ "java/lang/invoke/MethodHandle" ∧ yX3_put.cls ≠ "java/lang/invoke/VarHandle" ∧ (parseMethodDescriptor yX3_put.desc).map (fun d => d.parameters.length) = some 2 := by decide +kernel
