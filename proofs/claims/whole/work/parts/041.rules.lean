variable {p : Program} {l : Launch} {e : Env} {s : State} {m : MethodId} {args : Array Value} {below : List Frame} {meth : Method} {c : Code} {D : va_G} {cy : Nat → ClassId} {A : Nat → Prop} {H : Heap} {locs : List Loc} {ls : Array Slot} {Q : State → Prop}
def f_X5_resistorAt (v1 : Int32) (m_h_resistors : Nat → Int32) : Option (Int32) :=
  if v1 < 0 then
    some (0 : Int32)
  else
    if (16 : Int32) ≤ v1 then
      some (0 : Int32)
    else
      zc v1 16 <|
      some (m_h_resistors v1.toNatClampNeg)
set_option maxHeartbeats 4000000 in
set_option maxRecDepth 100000 in
theorem k_X5_resistorAt {h q_h_misses q_h_resistors : Nat} {v1 : Int32} {m_h_bits : Int32} {m_h_unit : Int32} {m_h_offset : Int32} {m_h_lean : Int32} {m_h_ref : Int32} {m_h_top : Int32} {m_h_resistors : Nat → Int32} {z : Int32} (C : cx p s m args meth c cX5_resistorAt 2 (some .int) RX5 D cy A) (hf : f_X5_resistorAt v1 m_h_resistors = some z) (hP : va_P D vwCl [(h, .inr (5, [.int m_h_bits, .int m_h_unit, .int m_h_offset, .int m_h_lean, .int m_h_ref, .int m_h_top, .ref q_h_misses, .ref q_h_resistors])), (q_h_resistors, aI cy 16 m_h_resistors)] H) (hD : va_D A [(h, .inr (5, [.int m_h_bits, .int m_h_unit, .int m_h_offset, .int m_h_lean, .int m_h_ref, .int m_h_top, .ref q_h_misses, .ref q_h_resistors])), (q_h_resistors, aI cy 16 m_h_resistors)]) (hS : va_S A s.heap H locs) (hl : lv_has ls 2 [(0, .ref h), (1, .int v1)]) : W p l e ({ frames := 0, cells := 0, slots := 0, locals := 0 } : Room) s m args below meth c H locs 0 0 (MQ below (kqi D cy [(h, .inr (5, [.int m_h_bits, .int m_h_unit, .int m_h_offset, .int m_h_lean, .int m_h_ref, .int m_h_top, .ref q_h_misses, .ref q_h_resistors])), (q_h_resistors, aI cy 16 m_h_resistors)] z A) args s 0 0 A) (F0 m 0 ls []) := by
  obtain ⟨hx, hb, hr, hml, hown, hts, hlk, hK, hA, hN⟩ := id C
  unfold f_X5_resistorAt at hf
  refine lv_iload_n hx hb dX5_resistorAt_0 rfl (lv_at hl 1 rfl) ?_
  refine lv_if_lt (tgt := 22) hx hb dX5_resistorAt_1 (by decide) (fun c1 => ?_) (fun c1 => ?_)
  · have hf := zt c1 hf
    refine lv_iconst (v := 0) hx hb dX5_resistorAt_22 (by decide) ?_
    obtain rfl := Option.some.inj hf
    exact ret_i C hP hD hS dX5_resistorAt_23
  · have hf := zf c1 hf
    refine lv_iload_n hx hb dX5_resistorAt_4 rfl (lv_at hl 1 rfl) ?_
    refine lv_aload_n hx hb dX5_resistorAt_5 rfl (lv_at hl 0 rfl) ?_
    refine va_get (D := D) (ci := 5) (v := .ref q_h_resistors) (C := RX5) (T := TX5) (N := 8) hx hb hts ui_X5 hown hK hP 0 rfl rfl 7 (by decide) (hts _ fl_X5_13) (fun _ h9 => h9) rfl dX5_resistorAt_6 ?_
    refine va_alen (v := (16 : Int32)) hx hb hK hP 1 1 rfl rfl rfl dX5_resistorAt_9 ?_
    refine lv_icmp_ge (tgt := 22) hx hb dX5_resistorAt_10 (by decide) (fun c10 => ?_) (fun c10 => ?_)
    · have hf := zt c10 hf
      refine lv_iconst (v := 0) hx hb dX5_resistorAt_22 (by decide) ?_
      obtain rfl := Option.some.inj hf
      exact ret_i C hP hD hS dX5_resistorAt_23
    · have hf := zf c10 hf
      refine lv_aload_n hx hb dX5_resistorAt_13 rfl (lv_at hl 0 rfl) ?_
      refine va_get (D := D) (ci := 5) (v := .ref q_h_resistors) (C := RX5) (T := TX5) (N := 8) hx hb hts ui_X5 hown hK hP 0 rfl rfl 7 (by decide) (hts _ fl_X5_13) (fun _ h9 => h9) rfl dX5_resistorAt_14 ?_
      refine lv_iload_n hx hb dX5_resistorAt_17 rfl (lv_at hl 1 rfl) ?_
      obtain ⟨hin, hf⟩ := zc_of hf
      refine va_iald hx hb hK hP 1 1 rfl rfl hin dX5_resistorAt_18 ?_
      refine lv_goto (tgt := 23) hx hb dX5_resistorAt_19 (by decide) ?_
      obtain rfl := Option.some.inj hf
      exact ret_i C hP hD hS dX5_resistorAt_23
set_option maxRecDepth 100000 in
theorem c_X5_resistorAt (l : Launch) (D : va_G) (cy : Nat → ClassId) (sz : Nat) (h q_h_misses q_h_resistors : Nat) (v1 : Int32) (m_h_bits : Int32) (m_h_unit : Int32) (m_h_offset : Int32) (m_h_lean : Int32) (m_h_ref : Int32) (m_h_top : Int32) (m_h_resistors : Nat → Int32) {z : Int32} (hf : f_X5_resistorAt v1 m_h_resistors = some z) : Met l yX5_resistorAt (.code yX5_resistorAt cX5_resistorAt 2 (some .int) :: tb) ({ frames := 0, cells := 0, slots := 0, locals := 0 } : Room) (kp D cy sz [.ref h, .int v1] [(h, .inr (5, [.int m_h_bits, .int m_h_unit, .int m_h_offset, .int m_h_lean, .int m_h_ref, .int m_h_top, .ref q_h_misses, .ref q_h_resistors])), (q_h_resistors, aI cy 16 m_h_resistors)]) (kqi D cy [(h, .inr (5, [.int m_h_bits, .int m_h_unit, .int m_h_offset, .int m_h_lean, .int m_h_ref, .int m_h_top, .ref q_h_misses, .ref q_h_resistors])), (q_h_resistors, aI cy 16 m_h_resistors)] z (va_A [(h, .inr (5, [.int m_h_bits, .int m_h_unit, .int m_h_offset, .int m_h_lean, .int m_h_ref, .int m_h_top, .ref q_h_misses, .ref q_h_resistors])), (q_h_resistors, aI cy 16 m_h_resistors)] sz)) 0 0 (va_A [(h, .inr (5, [.int m_h_bits, .int m_h_unit, .int m_h_offset, .int m_h_lean, .int m_h_ref, .int m_h_top, .ref q_h_misses, .ref q_h_resistors])), (q_h_resistors, aI cy 16 m_h_resistors)] sz) :=
  met_of (fun A => kqi D cy [(h, .inr (5, [.int m_h_bits, .int m_h_unit, .int m_h_offset, .int m_h_lean, .int m_h_ref, .int m_h_top, .ref q_h_misses, .ref q_h_resistors])), (q_h_resistors, aI cy 16 m_h_resistors)] z A) (by decide +kernel) (Nat.le_of_ble_eq_true rfl) (fun p e s m below meth c A ls C hP hD hS hl => k_X5_resistorAt C hf hP hD hS hl)
theorem hd_X5_resistorAt : yX5_resistorAt.cls ≠ "java/lang/invoke/MethodHandle" ∧ yX5_resistorAt.cls ≠ "java/lang/invoke/VarHandle" ∧ (parseMethodDescriptor yX5_resistorAt.desc).map (fun d => d.parameters.length) = some 1 := by decide +kernel
def f_X5_parts (m_h_bits : Int32) (m_h_top : Int32) : Option (Int32) :=
  if m_h_top = 0 then
    some m_h_bits
  else
    some (m_h_bits + (1 : Int32))
set_option maxHeartbeats 4000000 in
set_option maxRecDepth 100000 in
theorem k_X5_parts {h q_h_misses q_h_resistors : Nat} {m_h_bits : Int32} {m_h_unit : Int32} {m_h_offset : Int32} {m_h_lean : Int32} {m_h_ref : Int32} {m_h_top : Int32} {z : Int32} (C : cx p s m args meth c cX5_parts 1 (some .int) RX5 D cy A) (hf : f_X5_parts m_h_bits m_h_top = some z) (hP : va_P D vwCl [(h, .inr (5, [.int m_h_bits, .int m_h_unit, .int m_h_offset, .int m_h_lean, .int m_h_ref, .int m_h_top, .ref q_h_misses, .ref q_h_resistors]))] H) (hD : va_D A [(h, .inr (5, [.int m_h_bits, .int m_h_unit, .int m_h_offset, .int m_h_lean, .int m_h_ref, .int m_h_top, .ref q_h_misses, .ref q_h_resistors]))]) (hS : va_S A s.heap H locs) (hl : lv_has ls 1 [(0, .ref h)]) : W p l e ({ frames := 0, cells := 0, slots := 0, locals := 0 } : Room) s m args below meth c H locs 0 0 (MQ below (kqi D cy [(h, .inr (5, [.int m_h_bits, .int m_h_unit, .int m_h_offset, .int m_h_lean, .int m_h_ref, .int m_h_top, .ref q_h_misses, .ref q_h_resistors]))] z A) args s 0 0 A) (F0 m 0 ls []) := by
  obtain ⟨hx, hb, hr, hml, hown, hts, hlk, hK, hA, hN⟩ := id C
  unfold f_X5_parts at hf
  refine lv_aload_n hx hb dX5_parts_0 rfl (lv_at hl 0 rfl) ?_
  refine va_get (D := D) (ci := 5) (v := .int m_h_top) (C := RX5) (T := TX5) (N := 8) hx hb hts ui_X5 hown hK hP 0 rfl rfl 5 (by decide) (hts _ fl_X5_35) (fun _ h9 => h9) rfl dX5_parts_1 ?_
  refine lv_if_eq (tgt := 16) hx hb dX5_parts_4 (by decide) (fun c4 => ?_) (fun c4 => ?_)
  · have hf := zt c4 hf
    refine lv_aload_n hx hb dX5_parts_16 rfl (lv_at hl 0 rfl) ?_
    refine va_get (D := D) (ci := 5) (v := .int m_h_bits) (C := RX5) (T := TX5) (N := 8) hx hb hts ui_X5 hown hK hP 0 rfl rfl 0 (by decide) (hts _ fl_X5_19) (fun _ h9 => h9) rfl dX5_parts_17 ?_
    obtain rfl := Option.some.inj hf
    exact ret_i C hP hD hS dX5_parts_20
  · have hf := zf c4 hf
    refine lv_aload_n hx hb dX5_parts_7 rfl (lv_at hl 0 rfl) ?_
    refine va_get (D := D) (ci := 5) (v := .int m_h_bits) (C := RX5) (T := TX5) (N := 8) hx hb hts ui_X5 hown hK hP 0 rfl rfl 0 (by decide) (hts _ fl_X5_19) (fun _ h9 => h9) rfl dX5_parts_8 ?_
    refine lv_iconst (v := 1) hx hb dX5_parts_11 (by decide) ?_
    refine lv_iadd hx hb dX5_parts_12 ?_
    refine lv_goto (tgt := 20) hx hb dX5_parts_13 (by decide) ?_
    obtain rfl := Option.some.inj hf
    exact ret_i C hP hD hS dX5_parts_20
set_option maxRecDepth 100000 in
theorem c_X5_parts (l : Launch) (D : va_G) (cy : Nat → ClassId) (sz : Nat) (h q_h_misses q_h_resistors : Nat) (m_h_bits : Int32) (m_h_unit : Int32) (m_h_offset : Int32) (m_h_lean : Int32) (m_h_ref : Int32) (m_h_top : Int32) {z : Int32} (hf : f_X5_parts m_h_bits m_h_top = some z) : Met l yX5_parts (.code yX5_parts cX5_parts 1 (some .int) :: tb) ({ frames := 0, cells := 0, slots := 0, locals := 0 } : Room) (kp D cy sz [.ref h] [(h, .inr (5, [.int m_h_bits, .int m_h_unit, .int m_h_offset, .int m_h_lean, .int m_h_ref, .int m_h_top, .ref q_h_misses, .ref q_h_resistors]))]) (kqi D cy [(h, .inr (5, [.int m_h_bits, .int m_h_unit, .int m_h_offset, .int m_h_lean, .int m_h_ref, .int m_h_top, .ref q_h_misses, .ref q_h_resistors]))] z (va_A [(h, .inr (5, [.int m_h_bits, .int m_h_unit, .int m_h_offset, .int m_h_lean, .int m_h_ref, .int m_h_top, .ref q_h_misses, .ref q_h_resistors]))] sz)) 0 0 (va_A [(h, .inr (5, [.int m_h_bits, .int m_h_unit, .int m_h_offset, .int m_h_lean, .int m_h_ref, .int m_h_top, .ref q_h_misses, .ref q_h_resistors]))] sz) :=
  met_of (fun A => kqi D cy [(h, .inr (5, [.int m_h_bits, .int m_h_unit, .int m_h_offset, .int m_h_lean, .int m_h_ref, .int m_h_top, .ref q_h_misses, .ref q_h_resistors]))] z A) (by decide +kernel) (Nat.le_of_ble_eq_true rfl) (fun p e s m below meth c A ls C hP hD hS hl => k_X5_parts C hf hP hD hS hl)
theorem hd_X5_parts : yX5_parts.cls ≠ "java/lang/invoke/MethodHandle" ∧ yX5_parts.cls ≠ "java/lang/invoke/VarHandle" ∧ (parseMethodDescriptor yX5_parts.desc).map (fun d => d.parameters.length) = some 0 := by decide +kernel
def f_X5_takesPart_J42 (v1 : Int32) (v2 : Int32) : Option (Int32) :=
  if ((v1 >>> (v2 &&& 31)) &&& (1 : Int32)) = (1 : Int32) then
    some (1 : Int32)
  else
    some (0 : Int32)
set_option maxHeartbeats 4000000 in
set_option maxRecDepth 100000 in
theorem k_X5_takesPart_J42 {h q_h_misses q_h_resistors : Nat} {v1 : Int32} {v2 : Int32} {m_h_bits : Int32} {m_h_unit : Int32} {m_h_offset : Int32} {m_h_lean : Int32} {m_h_ref : Int32} {m_h_top : Int32} {z : Int32} (C : cx p s m args meth c cX5_takesPart 3 (some .boolean) RX5 D cy A) (hf : f_X5_takesPart_J42 v1 v2 = some z) (hP : va_P D vwCl [(h, .inr (5, [.int m_h_bits, .int m_h_unit, .int m_h_offset, .int m_h_lean, .int m_h_ref, .int m_h_top, .ref q_h_misses, .ref q_h_resistors]))] H) (hD : va_D A [(h, .inr (5, [.int m_h_bits, .int m_h_unit, .int m_h_offset, .int m_h_lean, .int m_h_ref, .int m_h_top, .ref q_h_misses, .ref q_h_resistors]))]) (hS : va_S A s.heap H locs) (hl : lv_has ls 3 [(1, .int v1), (2, .int v2)]) : W p l e ({ frames := 0, cells := 0, slots := 0, locals := 0 } : Room) s m args below meth c H locs 0 0 (MQ below (kqz D cy [(h, .inr (5, [.int m_h_bits, .int m_h_unit, .int m_h_offset, .int m_h_lean, .int m_h_ref, .int m_h_top, .ref q_h_misses, .ref q_h_resistors]))] z A) args s 0 0 A) (F0 m 42 ls []) := by
  obtain ⟨hx, hb, hr, hml, hown, hts, hlk, hK, hA, hN⟩ := id C
  unfold f_X5_takesPart_J42 at hf
  refine lv_iload_n hx hb dX5_takesPart_42 rfl (lv_at hl 0 rfl) ?_
  refine lv_iload_n hx hb dX5_takesPart_43 rfl (lv_at hl 1 rfl) ?_
  refine lv_ishr hx hb dX5_takesPart_44 ?_
  refine lv_iconst (v := 1) hx hb dX5_takesPart_45 (by decide) ?_
  refine lv_iand hx hb dX5_takesPart_46 ?_
  refine lv_iconst (v := 1) hx hb dX5_takesPart_47 (by decide) ?_
  refine lv_icmp_ne (tgt := 55) hx hb dX5_takesPart_48 (by decide) (fun c48 => ?_) (fun c48 => ?_)
  · have hf := zf c48 hf
    refine lv_iconst (v := 0) hx hb dX5_takesPart_55 (by decide) ?_
    obtain rfl := Option.some.inj hf
    exact ret_z (v := (0 : Int32)) C rfl hP hD hS dX5_takesPart_56
  · have hf := zt c48 hf
    refine lv_iconst (v := 1) hx hb dX5_takesPart_51 (by decide) ?_
    refine lv_goto (tgt := 56) hx hb dX5_takesPart_52 (by decide) ?_
    obtain rfl := Option.some.inj hf
    exact ret_z (v := (1 : Int32)) C rfl hP hD hS dX5_takesPart_56
def f_X5_takesPart (v1 : Int32) (v2 : Int32) (m_h_bits : Int32) (m_h_top : Int32) : Option (Int32) :=
  if m_h_top = 0 then
    f_X5_takesPart_J42 v1 v2
  else
    if v2 < (m_h_bits - (2 : Int32)) then
      f_X5_takesPart_J42 v1 v2
    else
      if (v1 >>> ((m_h_bits - (2 : Int32)) &&& 31)) ≤ (v2 - (m_h_bits - (2 : Int32))) then
        some (0 : Int32)
      else
        some (1 : Int32)
set_option maxHeartbeats 4000000 in
set_option maxRecDepth 100000 in
theorem k_X5_takesPart {h q_h_misses q_h_resistors : Nat} {v1 : Int32} {v2 : Int32} {m_h_bits : Int32} {m_h_unit : Int32} {m_h_offset : Int32} {m_h_lean : Int32} {m_h_ref : Int32} {m_h_top : Int32} {z : Int32} (C : cx p s m args meth c cX5_takesPart 3 (some .boolean) RX5 D cy A) (hf : f_X5_takesPart v1 v2 m_h_bits m_h_top = some z) (hP : va_P D vwCl [(h, .inr (5, [.int m_h_bits, .int m_h_unit, .int m_h_offset, .int m_h_lean, .int m_h_ref, .int m_h_top, .ref q_h_misses, .ref q_h_resistors]))] H) (hD : va_D A [(h, .inr (5, [.int m_h_bits, .int m_h_unit, .int m_h_offset, .int m_h_lean, .int m_h_ref, .int m_h_top, .ref q_h_misses, .ref q_h_resistors]))]) (hS : va_S A s.heap H locs) (hl : lv_has ls 3 [(0, .ref h), (1, .int v1), (2, .int v2)]) : W p l e ({ frames := 0, cells := 0, slots := 0, locals := 0 } : Room) s m args below meth c H locs 0 0 (MQ below (kqz D cy [(h, .inr (5, [.int m_h_bits, .int m_h_unit, .int m_h_offset, .int m_h_lean, .int m_h_ref, .int m_h_top, .ref q_h_misses, .ref q_h_resistors]))] z A) args s 0 0 A) (F0 m 0 ls []) := by
  obtain ⟨hx, hb, hr, hml, hown, hts, hlk, hK, hA, hN⟩ := id C
  unfold f_X5_takesPart at hf
  refine lv_aload_n hx hb dX5_takesPart_0 rfl (lv_at hl 0 rfl) ?_
  refine va_get (D := D) (ci := 5) (v := .int m_h_top) (C := RX5) (T := TX5) (N := 8) hx hb hts ui_X5 hown hK hP 0 rfl rfl 5 (by decide) (hts _ fl_X5_35) (fun _ h9 => h9) rfl dX5_takesPart_1 ?_
  refine lv_if_eq (tgt := 42) hx hb dX5_takesPart_4 (by decide) (fun c4 => ?_) (fun c4 => ?_)
  · have hf := zt c4 hf
    exact k_X5_takesPart_J42 C hf hP hD hS (lv_sub hl [1, 2] rfl)
  · have hf := zf c4 hf
    refine lv_iload_n hx hb dX5_takesPart_7 rfl (lv_at hl 2 rfl) ?_
    refine lv_aload_n hx hb dX5_takesPart_8 rfl (lv_at hl 0 rfl) ?_
    refine va_get (D := D) (ci := 5) (v := .int m_h_bits) (C := RX5) (T := TX5) (N := 8) hx hb hts ui_X5 hown hK hP 0 rfl rfl 0 (by decide) (hts _ fl_X5_19) (fun _ h9 => h9) rfl dX5_takesPart_9 ?_
    refine lv_iconst (v := 2) hx hb dX5_takesPart_12 (by decide) ?_
    refine lv_isub hx hb dX5_takesPart_13 ?_
    refine lv_icmp_lt (tgt := 42) hx hb dX5_takesPart_14 (by decide) (fun c14 => ?_) (fun c14 => ?_)
    · have hf := zt c14 hf
      exact k_X5_takesPart_J42 C hf hP hD hS (lv_sub hl [1, 2] rfl)
    · have hf := zf c14 hf
      refine lv_iload_n hx hb dX5_takesPart_17 rfl (lv_at hl 1 rfl) ?_
      refine lv_aload_n hx hb dX5_takesPart_18 rfl (lv_at hl 0 rfl) ?_
      refine va_get (D := D) (ci := 5) (v := .int m_h_bits) (C := RX5) (T := TX5) (N := 8) hx hb hts ui_X5 hown hK hP 0 rfl rfl 0 (by decide) (hts _ fl_X5_19) (fun _ h9 => h9) rfl dX5_takesPart_19 ?_
      refine lv_iconst (v := 2) hx hb dX5_takesPart_22 (by decide) ?_
      refine lv_isub hx hb dX5_takesPart_23 ?_
      refine lv_ishr hx hb dX5_takesPart_24 ?_
      refine lv_iload_n hx hb dX5_takesPart_25 rfl (lv_at hl 2 rfl) ?_
      refine lv_aload_n hx hb dX5_takesPart_26 rfl (lv_at hl 0 rfl) ?_
      refine va_get (D := D) (ci := 5) (v := .int m_h_bits) (C := RX5) (T := TX5) (N := 8) hx hb hts ui_X5 hown hK hP 0 rfl rfl 0 (by decide) (hts _ fl_X5_19) (fun _ h9 => h9) rfl dX5_takesPart_27 ?_
      refine lv_iconst (v := 2) hx hb dX5_takesPart_30 (by decide) ?_
      refine lv_isub hx hb dX5_takesPart_31 ?_
      refine lv_isub hx hb dX5_takesPart_32 ?_
      refine lv_icmp_le (tgt := 40) hx hb dX5_takesPart_33 (by decide) (fun c33 => ?_) (fun c33 => ?_)
      · have hf := zt c33 hf
        refine lv_iconst (v := 0) hx hb dX5_takesPart_40 (by decide) ?_
        obtain rfl := Option.some.inj hf
        exact ret_z (v := (0 : Int32)) C rfl hP hD hS dX5_takesPart_41
      · have hf := zf c33 hf
        refine lv_iconst (v := 1) hx hb dX5_takesPart_36 (by decide) ?_
        refine lv_goto (tgt := 41) hx hb dX5_takesPart_37 (by decide) ?_
        obtain rfl := Option.some.inj hf
        exact ret_z (v := (1 : Int32)) C rfl hP hD hS dX5_takesPart_41
set_option maxRecDepth 100000 in
theorem c_X5_takesPart (l : Launch) (D : va_G) (cy : Nat → ClassId) (sz : Nat) (h q_h_misses q_h_resistors : Nat) (v1 : Int32) (v2 : Int32) (m_h_bits : Int32) (m_h_unit : Int32) (m_h_offset : Int32) (m_h_lean : Int32) (m_h_ref : Int32) (m_h_top : Int32) {z : Int32} (hf : f_X5_takesPart v1 v2 m_h_bits m_h_top = some z) : Met l yX5_takesPart (.code yX5_takesPart cX5_takesPart 3 (some .boolean) :: tb) ({ frames := 0, cells := 0, slots := 0, locals := 0 } : Room) (kp D cy sz [.ref h, .int v1, .int v2] [(h, .inr (5, [.int m_h_bits, .int m_h_unit, .int m_h_offset, .int m_h_lean, .int m_h_ref, .int m_h_top, .ref q_h_misses, .ref q_h_resistors]))]) (kqz D cy [(h, .inr (5, [.int m_h_bits, .int m_h_unit, .int m_h_offset, .int m_h_lean, .int m_h_ref, .int m_h_top, .ref q_h_misses, .ref q_h_resistors]))] z (va_A [(h, .inr (5, [.int m_h_bits, .int m_h_unit, .int m_h_offset, .int m_h_lean, .int m_h_ref, .int m_h_top, .ref q_h_misses, .ref q_h_resistors]))] sz)) 0 0 (va_A [(h, .inr (5, [.int m_h_bits, .int m_h_unit, .int m_h_offset, .int m_h_lean, .int m_h_ref, .int m_h_top, .ref q_h_misses, .ref q_h_resistors]))] sz) :=
  met_of (fun A => kqz D cy [(h, .inr (5, [.int m_h_bits, .int m_h_unit, .int m_h_offset, .int m_h_lean, .int m_h_ref, .int m_h_top, .ref q_h_misses, .ref q_h_resistors]))] z A) (by decide +kernel) (Nat.le_of_ble_eq_true rfl) (fun p e s m below meth c A ls C hP hD hS hl => k_X5_takesPart C hf hP hD hS hl)
theorem hd_X5_takesPart : yX5_takesPart.cls ≠ "java/lang/invoke/MethodHandle" ∧ yX5_takesPart.cls ≠ "java/lang/invoke/VarHandle" ∧ (parseMethodDescriptor yX5_takesPart.desc).map (fun d => d.parameters.length) = some 2 := by decide +kernel
def f_X5_evenWeight (v1 : Int32) (m_h_bits : Int32) (m_h_unit : Int32) (m_h_top : Int32) : Option (Int32) :=
  if m_h_top = 0 then
    some (m_h_unit <<< (v1 &&& 31))
  else
    zb (f_J9_min_7cf53 v1 (m_h_bits - (2 : Int32))) fun z18 =>
    some (m_h_unit <<< (z18 &&& 31))
set_option maxHeartbeats 4000000 in
set_option maxRecDepth 100000 in
theorem k_X5_evenWeight {h q_h_misses q_h_resistors : Nat} {v1 : Int32} {m_h_bits : Int32} {m_h_unit : Int32} {m_h_offset : Int32} {m_h_lean : Int32} {m_h_ref : Int32} {m_h_top : Int32} {z : Int32} (C : cx p s m args meth c cX5_evenWeight 2 (some .int) RX5 D cy A) (hf : f_X5_evenWeight v1 m_h_bits m_h_unit m_h_top = some z) (hP : va_P D vwCl [(h, .inr (5, [.int m_h_bits, .int m_h_unit, .int m_h_offset, .int m_h_lean, .int m_h_ref, .int m_h_top, .ref q_h_misses, .ref q_h_resistors]))] H) (hD : va_D A [(h, .inr (5, [.int m_h_bits, .int m_h_unit, .int m_h_offset, .int m_h_lean, .int m_h_ref, .int m_h_top, .ref q_h_misses, .ref q_h_resistors]))]) (hS : va_S A s.heap H locs) (hl : lv_has ls 2 [(0, .ref h), (1, .int v1)]) : W p l e ({ frames := 1, cells := 0, slots := 0, locals := 21 } : Room) s m args below meth c H locs 0 0 (MQ below (kqi D cy [(h, .inr (5, [.int m_h_bits, .int m_h_unit, .int m_h_offset, .int m_h_lean, .int m_h_ref, .int m_h_top, .ref q_h_misses, .ref q_h_resistors]))] z A) args s 0 0 A) (F0 m 0 ls []) := by
  obtain ⟨hx, hb, hr, hml, hown, hts, hlk, hK, hA, hN⟩ := id C
  unfold f_X5_evenWeight at hf
  refine lv_aload_n hx hb dX5_evenWeight_0 rfl (lv_at hl 0 rfl) ?_
  refine va_get (D := D) (ci := 5) (v := .int m_h_unit) (C := RX5) (T := TX5) (N := 8) hx hb hts ui_X5 hown hK hP 0 rfl rfl 1 (by decide) (hts _ fl_X5_23) (fun _ h9 => h9) rfl dX5_evenWeight_1 ?_
  refine lv_aload_n hx hb dX5_evenWeight_4 rfl (lv_at hl 0 rfl) ?_
  refine va_get (D := D) (ci := 5) (v := .int m_h_top) (C := RX5) (T := TX5) (N := 8) hx hb hts ui_X5 hown hK hP 0 rfl rfl 5 (by decide) (hts _ fl_X5_35) (fun _ h9 => h9) rfl dX5_evenWeight_5 ?_
  refine lv_if_eq (tgt := 24) hx hb dX5_evenWeight_8 (by decide) (fun c8 => ?_) (fun c8 => ?_)
  · have hf := zt c8 hf
    refine lv_iload_n hx hb dX5_evenWeight_24 rfl (lv_at hl 1 rfl) ?_
    refine lv_ishl hx hb dX5_evenWeight_25 ?_
    obtain rfl := Option.some.inj hf
    exact ret_i C hP hD hS dX5_evenWeight_26
  · have hf := zf c8 hf
    refine lv_iload_n hx hb dX5_evenWeight_11 rfl (lv_at hl 1 rfl) ?_
    refine lv_aload_n hx hb dX5_evenWeight_12 rfl (lv_at hl 0 rfl) ?_
    refine va_get (D := D) (ci := 5) (v := .int m_h_bits) (C := RX5) (T := TX5) (N := 8) hx hb hts ui_X5 hown hK hP 0 rfl rfl 0 (by decide) (hts _ fl_X5_19) (fun _ h9 => h9) rfl dX5_evenWeight_13 ?_
    refine lv_iconst (v := 2) hx hb dX5_evenWeight_16 (by decide) ?_
    refine lv_isub hx hb dX5_evenWeight_17 ?_
    obtain ⟨z18, hz18, hf⟩ := zb_of hf
    refine goI (wr := [(h, .inr (5, [.int m_h_bits, .int m_h_unit, .int m_h_offset, .int m_h_lean, .int m_h_ref, .int m_h_top, .ref q_h_misses, .ref q_h_resistors]))]) (ws' := [(h, .inr (5, [.int m_h_bits, .int m_h_unit, .int m_h_offset, .int m_h_lean, .int m_h_ref, .int m_h_top, .ref q_h_misses, .ref q_h_resistors]))]) C (runS (n := 2) (As := [.int v1, .int (m_h_bits - (2 : Int32))]) (rest := [.int m_h_unit]) C (c_J9_min_7cf53 l D cy H.size v1 (m_h_bits - (2 : Int32)) hz18) ml_X5_58 st_J9_min_7cf53 ii_J9 cd_J9_min_7cf53 hd_J9_min_7cf53 rfl rfl ⟨Nat.le_of_ble_eq_true rfl, Nat.le_of_ble_eq_true rfl⟩ (hP.sub [] rfl) (hD.sub [] (by decide) rfl) hS rfl hl.1 rfl (Nat.le_of_ble_eq_true rfl) dX5_evenWeight_18) hP hD hS [] [0] [0] rfl rfl (by decide) (by decide) rfl (by decide) (fun H locs hP hD hS => ?_)
    refine lv_goto (tgt := 25) hx hb dX5_evenWeight_21 (by decide) ?_
    refine lv_ishl hx hb dX5_evenWeight_25 ?_
    obtain rfl := Option.some.inj hf
    exact ret_i C hP hD hS dX5_evenWeight_26
set_option maxRecDepth 100000 in
theorem c_X5_evenWeight (l : Launch) (D : va_G) (cy : Nat → ClassId) (sz : Nat) (h q_h_misses q_h_resistors : Nat) (v1 : Int32) (m_h_bits : Int32) (m_h_unit : Int32) (m_h_offset : Int32) (m_h_lean : Int32) (m_h_ref : Int32) (m_h_top : Int32) {z : Int32} (hf : f_X5_evenWeight v1 m_h_bits m_h_unit m_h_top = some z) : Met l yX5_evenWeight (.code yX5_evenWeight cX5_evenWeight 2 (some .int) :: tb) ({ frames := 1, cells := 0, slots := 0, locals := 21 } : Room) (kp D cy sz [.ref h, .int v1] [(h, .inr (5, [.int m_h_bits, .int m_h_unit, .int m_h_offset, .int m_h_lean, .int m_h_ref, .int m_h_top, .ref q_h_misses, .ref q_h_resistors]))]) (kqi D cy [(h, .inr (5, [.int m_h_bits, .int m_h_unit, .int m_h_offset, .int m_h_lean, .int m_h_ref, .int m_h_top, .ref q_h_misses, .ref q_h_resistors]))] z (va_A [(h, .inr (5, [.int m_h_bits, .int m_h_unit, .int m_h_offset, .int m_h_lean, .int m_h_ref, .int m_h_top, .ref q_h_misses, .ref q_h_resistors]))] sz)) 0 0 (va_A [(h, .inr (5, [.int m_h_bits, .int m_h_unit, .int m_h_offset, .int m_h_lean, .int m_h_ref, .int m_h_top, .ref q_h_misses, .ref q_h_resistors]))] sz) :=
  met_of (fun A => kqi D cy [(h, .inr (5, [.int m_h_bits, .int m_h_unit, .int m_h_offset, .int m_h_lean, .int m_h_ref, .int m_h_top, .ref q_h_misses, .ref q_h_resistors]))] z A) (by decide +kernel) (Nat.le_of_ble_eq_true rfl) (fun p e s m below meth c A ls C hP hD hS hl => k_X5_evenWeight C hf hP hD hS hl)
theorem hd_X5_evenWeight : yX5_evenWeight.cls ≠ "java/lang/invoke/MethodHandle" ∧ yX5_evenWeight.cls ≠ "java/lang/invoke/VarHandle" ∧ (parseMethodDescriptor yX5_evenWeight.desc).map (fun d => d.parameters.length) = some 1 := by decide +kernel
def f_X5_missOf (v1 : Int32) (m_h_bits : Int32) (m_h_top : Int32) (m_h_misses : Nat → Int32) : Option (Int32) :=
  if v1 < 0 then
    some (0 : Int32)
  else
    zb (f_X5_parts m_h_bits m_h_top) fun z6 =>
    if z6 ≤ v1 then
      some (0 : Int32)
    else
      if (9 : Int32) ≤ v1 then
        some (0 : Int32)
      else
        zc v1 9 <|
        some (m_h_misses v1.toNatClampNeg)
set_option maxHeartbeats 4000000 in
set_option maxRecDepth 100000 in
theorem k_X5_missOf {h q_h_misses q_h_resistors : Nat} {v1 : Int32} {m_h_bits : Int32} {m_h_unit : Int32} {m_h_offset : Int32} {m_h_lean : Int32} {m_h_ref : Int32} {m_h_top : Int32} {m_h_misses : Nat → Int32} {z : Int32} (C : cx p s m args meth c cX5_missOf 2 (some .int) RX5 D cy A) (hf : f_X5_missOf v1 m_h_bits m_h_top m_h_misses = some z) (hP : va_P D vwCl [(h, .inr (5, [.int m_h_bits, .int m_h_unit, .int m_h_offset, .int m_h_lean, .int m_h_ref, .int m_h_top, .ref q_h_misses, .ref q_h_resistors])), (q_h_misses, aI cy 9 m_h_misses)] H) (hD : va_D A [(h, .inr (5, [.int m_h_bits, .int m_h_unit, .int m_h_offset, .int m_h_lean, .int m_h_ref, .int m_h_top, .ref q_h_misses, .ref q_h_resistors])), (q_h_misses, aI cy 9 m_h_misses)]) (hS : va_S A s.heap H locs) (hl : lv_has ls 2 [(0, .ref h), (1, .int v1)]) : W p l e ({ frames := 1, cells := 0, slots := 0, locals := 20 } : Room) s m args below meth c H locs 0 0 (MQ below (kqi D cy [(h, .inr (5, [.int m_h_bits, .int m_h_unit, .int m_h_offset, .int m_h_lean, .int m_h_ref, .int m_h_top, .ref q_h_misses, .ref q_h_resistors])), (q_h_misses, aI cy 9 m_h_misses)] z A) args s 0 0 A) (F0 m 0 ls []) := by
  obtain ⟨hx, hb, hr, hml, hown, hts, hlk, hK, hA, hN⟩ := id C
  unfold f_X5_missOf at hf
  refine lv_iload_n hx hb dX5_missOf_0 rfl (lv_at hl 1 rfl) ?_
  refine lv_if_lt (tgt := 30) hx hb dX5_missOf_1 (by decide) (fun c1 => ?_) (fun c1 => ?_)
  · have hf := zt c1 hf
    refine lv_iconst (v := 0) hx hb dX5_missOf_30 (by decide) ?_
    obtain rfl := Option.some.inj hf
    exact ret_i C hP hD hS dX5_missOf_31
  · have hf := zf c1 hf
    refine lv_iload_n hx hb dX5_missOf_4 rfl (lv_at hl 1 rfl) ?_
    refine lv_aload_n hx hb dX5_missOf_5 rfl (lv_at hl 0 rfl) ?_
    obtain ⟨z6, hz6, hf⟩ := zb_of hf
    refine goI (wr := [(q_h_misses, aI cy 9 m_h_misses)]) (ws' := [(h, .inr (5, [.int m_h_bits, .int m_h_unit, .int m_h_offset, .int m_h_lean, .int m_h_ref, .int m_h_top, .ref q_h_misses, .ref q_h_resistors])), (q_h_misses, aI cy 9 m_h_misses)]) C (runV (n := 0) (As := []) (rest := [.int v1]) C (c_X5_parts l D cy H.size h q_h_misses q_h_resistors m_h_bits m_h_unit m_h_offset m_h_lean m_h_ref m_h_top hz6) ml_X5_55 im_X5_parts se_X5_parts ii_X5 cd_X5_parts hd_X5_parts rfl rfl ⟨Nat.le_of_ble_eq_true rfl, Nat.le_of_ble_eq_true rfl⟩ (hP.sub [0] rfl) (hD.sub [0] (by decide) rfl) hS rfl rfl rfl hl.1 rfl (Nat.le_of_ble_eq_true rfl) dX5_missOf_6) hP hD hS [0] [1] [1, 0] rfl rfl (by decide) (by decide) rfl (by decide) (fun H locs hP hD hS => ?_)
    refine lv_icmp_ge (tgt := 30) hx hb dX5_missOf_9 (by decide) (fun c9 => ?_) (fun c9 => ?_)
    · have hf := zt c9 hf
      refine lv_iconst (v := 0) hx hb dX5_missOf_30 (by decide) ?_
      obtain rfl := Option.some.inj hf
      exact ret_i C hP hD hS dX5_missOf_31
    · have hf := zf c9 hf
      refine lv_iload_n hx hb dX5_missOf_12 rfl (lv_at hl 1 rfl) ?_
      refine lv_aload_n hx hb dX5_missOf_13 rfl (lv_at hl 0 rfl) ?_
      refine va_get (D := D) (ci := 5) (v := .ref q_h_misses) (C := RX5) (T := TX5) (N := 8) hx hb hts ui_X5 hown hK hP 0 rfl rfl 6 (by decide) (hts _ fl_X5_9) (fun _ h9 => h9) rfl dX5_missOf_14 ?_
      refine va_alen (v := (9 : Int32)) hx hb hK hP 1 1 rfl rfl rfl dX5_missOf_17 ?_
      refine lv_icmp_ge (tgt := 30) hx hb dX5_missOf_18 (by decide) (fun c18 => ?_) (fun c18 => ?_)
      · have hf := zt c18 hf
        refine lv_iconst (v := 0) hx hb dX5_missOf_30 (by decide) ?_
        obtain rfl := Option.some.inj hf
        exact ret_i C hP hD hS dX5_missOf_31
      · have hf := zf c18 hf
        refine lv_aload_n hx hb dX5_missOf_21 rfl (lv_at hl 0 rfl) ?_
        refine va_get (D := D) (ci := 5) (v := .ref q_h_misses) (C := RX5) (T := TX5) (N := 8) hx hb hts ui_X5 hown hK hP 0 rfl rfl 6 (by decide) (hts _ fl_X5_9) (fun _ h9 => h9) rfl dX5_missOf_22 ?_
        refine lv_iload_n hx hb dX5_missOf_25 rfl (lv_at hl 1 rfl) ?_
        obtain ⟨hin, hf⟩ := zc_of hf
        refine va_iald hx hb hK hP 1 1 rfl rfl hin dX5_missOf_26 ?_
        refine lv_goto (tgt := 31) hx hb dX5_missOf_27 (by decide) ?_
        obtain rfl := Option.some.inj hf
        exact ret_i C hP hD hS dX5_missOf_31
set_option maxRecDepth 100000 in
theorem c_X5_missOf (l : Launch) (D : va_G) (cy : Nat → ClassId) (sz : Nat) (h q_h_misses q_h_resistors : Nat) (v1 : Int32) (m_h_bits : Int32) (m_h_unit : Int32) (m_h_offset : Int32) (m_h_lean : Int32) (m_h_ref : Int32) (m_h_top : Int32) (m_h_misses : Nat → Int32) {z : Int32} (hf : f_X5_missOf v1 m_h_bits m_h_top m_h_misses = some z) : Met l yX5_missOf (.code yX5_missOf cX5_missOf 2 (some .int) :: tb) ({ frames := 1, cells := 0, slots := 0, locals := 20 } : Room) (kp D cy sz [.ref h, .int v1] [(h, .inr (5, [.int m_h_bits, .int m_h_unit, .int m_h_offset, .int m_h_lean, .int m_h_ref, .int m_h_top, .ref q_h_misses, .ref q_h_resistors])), (q_h_misses, aI cy 9 m_h_misses)]) (kqi D cy [(h, .inr (5, [.int m_h_bits, .int m_h_unit, .int m_h_offset, .int m_h_lean, .int m_h_ref, .int m_h_top, .ref q_h_misses, .ref q_h_resistors])), (q_h_misses, aI cy 9 m_h_misses)] z (va_A [(h, .inr (5, [.int m_h_bits, .int m_h_unit, .int m_h_offset, .int m_h_lean, .int m_h_ref, .int m_h_top, .ref q_h_misses, .ref q_h_resistors])), (q_h_misses, aI cy 9 m_h_misses)] sz)) 0 0 (va_A [(h, .inr (5, [.int m_h_bits, .int m_h_unit, .int m_h_offset, .int m_h_lean, .int m_h_ref, .int m_h_top, .ref q_h_misses, .ref q_h_resistors])), (q_h_misses, aI cy 9 m_h_misses)] sz) :=
  met_of (fun A => kqi D cy [(h, .inr (5, [.int m_h_bits, .int m_h_unit, .int m_h_offset, .int m_h_lean, .int m_h_ref, .int m_h_top, .ref q_h_misses, .ref q_h_resistors])), (q_h_misses, aI cy 9 m_h_misses)] z A) (by decide +kernel) (Nat.le_of_ble_eq_true rfl) (fun p e s m below meth c A ls C hP hD hS hl => k_X5_missOf C hf hP hD hS hl)
theorem hd_X5_missOf : yX5_missOf.cls ≠ "java/lang/invoke/MethodHandle" ∧ yX5_missOf.cls ≠ "java/lang/invoke/VarHandle" ∧ (parseMethodDescriptor yX5_missOf.desc).map (fun d => d.parameters.length) = some 1 := by decide +kernel
def f_X5_putMiss (v1 : Int32) (v2 : Int32) (m_h_misses : Nat → Int32) : Option ((Nat → Int32)) :=
  if v1 < 0 then
    some m_h_misses
  else
    if (9 : Int32) ≤ v1 then
      some m_h_misses
    else
      zc v1 9 <|
      zl (upd m_h_misses v1.toNatClampNeg v2) fun a19 =>
      some a19
set_option maxHeartbeats 4000000 in
set_option maxRecDepth 100000 in
theorem k_X5_putMiss {h q_h_misses q_h_resistors : Nat} {v1 : Int32} {v2 : Int32} {m_h_bits : Int32} {m_h_unit : Int32} {m_h_offset : Int32} {m_h_lean : Int32} {m_h_ref : Int32} {m_h_top : Int32} {m_h_misses : Nat → Int32} {z : (Nat → Int32)} (C : cx p s m args meth c cX5_putMiss 3 none RX5 D cy A) (hf : f_X5_putMiss v1 v2 m_h_misses = some z) (hP : va_P D vwCl [(h, .inr (5, [.int m_h_bits, .int m_h_unit, .int m_h_offset, .int m_h_lean, .int m_h_ref, .int m_h_top, .ref q_h_misses, .ref q_h_resistors])), (q_h_misses, aI cy 9 m_h_misses)] H) (hD : va_D A [(h, .inr (5, [.int m_h_bits, .int m_h_unit, .int m_h_offset, .int m_h_lean, .int m_h_ref, .int m_h_top, .ref q_h_misses, .ref q_h_resistors])), (q_h_misses, aI cy 9 m_h_misses)]) (hS : va_S A s.heap H locs) (hl : lv_has ls 3 [(0, .ref h), (1, .int v1), (2, .int v2)]) : W p l e ({ frames := 0, cells := 0, slots := 0, locals := 0 } : Room) s m args below meth c H locs 0 0 (MQ below (kqv D cy [(h, .inr (5, [.int m_h_bits, .int m_h_unit, .int m_h_offset, .int m_h_lean, .int m_h_ref, .int m_h_top, .ref q_h_misses, .ref q_h_resistors])), (q_h_misses, aI cy 9 z)] A) args s 0 0 A) (F0 m 0 ls []) := by
  obtain ⟨hx, hb, hr, hml, hown, hts, hlk, hK, hA, hN⟩ := id C
  unfold f_X5_putMiss at hf
  refine lv_iload_n hx hb dX5_putMiss_0 rfl (lv_at hl 1 rfl) ?_
  refine lv_if_lt (tgt := 20) hx hb dX5_putMiss_1 (by decide) (fun c1 => ?_) (fun c1 => ?_)
  · have hf := zt c1 hf
    obtain rfl := Option.some.inj hf
    exact ret_v C hP hD hS dX5_putMiss_20
  · have hf := zf c1 hf
    refine lv_iload_n hx hb dX5_putMiss_4 rfl (lv_at hl 1 rfl) ?_
    refine lv_aload_n hx hb dX5_putMiss_5 rfl (lv_at hl 0 rfl) ?_
    refine va_get (D := D) (ci := 5) (v := .ref q_h_misses) (C := RX5) (T := TX5) (N := 8) hx hb hts ui_X5 hown hK hP 0 rfl rfl 6 (by decide) (hts _ fl_X5_9) (fun _ h9 => h9) rfl dX5_putMiss_6 ?_
    refine va_alen (v := (9 : Int32)) hx hb hK hP 1 1 rfl rfl rfl dX5_putMiss_9 ?_
    refine lv_icmp_ge (tgt := 20) hx hb dX5_putMiss_10 (by decide) (fun c10 => ?_) (fun c10 => ?_)
    · have hf := zt c10 hf
      obtain rfl := Option.some.inj hf
      exact ret_v C hP hD hS dX5_putMiss_20
    · have hf := zf c10 hf
      refine lv_aload_n hx hb dX5_putMiss_13 rfl (lv_at hl 0 rfl) ?_
      refine va_get (D := D) (ci := 5) (v := .ref q_h_misses) (C := RX5) (T := TX5) (N := 8) hx hb hts ui_X5 hown hK hP 0 rfl rfl 6 (by decide) (hts _ fl_X5_9) (fun _ h9 => h9) rfl dX5_putMiss_14 ?_
      refine lv_iload_n hx hb dX5_putMiss_17 rfl (lv_at hl 1 rfl) ?_
      refine lv_iload_n hx hb dX5_putMiss_18 rfl (lv_at hl 2 rfl) ?_
      obtain ⟨hin, hf⟩ := zc_of hf
      obtain ⟨a19, ea19⟩ : ∃ y : Nat → Int32, y = upd m_h_misses v1.toNatClampNeg v2 := ⟨_, rfl⟩
      have hf := zl_of hf a19 ea19
      refine va_iast hx hb hK hP hD hS 1 1 rfl rfl hin dX5_putMiss_19 (fun H locs hP hD hS => ?_)
      rw [← ea19] at hP hD
      have hP : va_P D vwCl [(h, .inr (5, [.int m_h_bits, .int m_h_unit, .int m_h_offset, .int m_h_lean, .int m_h_ref, .int m_h_top, .ref q_h_misses, .ref q_h_resistors])), (q_h_misses, aI cy 9 a19)] H := hP
      have hD : va_D A [(h, .inr (5, [.int m_h_bits, .int m_h_unit, .int m_h_offset, .int m_h_lean, .int m_h_ref, .int m_h_top, .ref q_h_misses, .ref q_h_resistors])), (q_h_misses, aI cy 9 a19)] := hD
      obtain rfl := Option.some.inj hf
      exact ret_v C hP hD hS dX5_putMiss_20
set_option maxRecDepth 100000 in
theorem c_X5_putMiss (l : Launch) (D : va_G) (cy : Nat → ClassId) (sz : Nat) (h q_h_misses q_h_resistors : Nat) (v1 : Int32) (v2 : Int32) (m_h_bits : Int32) (m_h_unit : Int32) (m_h_offset : Int32) (m_h_lean : Int32) (m_h_ref : Int32) (m_h_top : Int32) (m_h_misses : Nat → Int32) {z : (Nat → Int32)} (hf : f_X5_putMiss v1 v2 m_h_misses = some z) : Met l yX5_putMiss (.code yX5_putMiss cX5_putMiss 3 none :: tb) ({ frames := 0, cells := 0, slots := 0, locals := 0 } : Room) (kp D cy sz [.ref h, .int v1, .int v2] [(h, .inr (5, [.int m_h_bits, .int m_h_unit, .int m_h_offset, .int m_h_lean, .int m_h_ref, .int m_h_top, .ref q_h_misses, .ref q_h_resistors])), (q_h_misses, aI cy 9 m_h_misses)]) (kqv D cy [(h, .inr (5, [.int m_h_bits, .int m_h_unit, .int m_h_offset, .int m_h_lean, .int m_h_ref, .int m_h_top, .ref q_h_misses, .ref q_h_resistors])), (q_h_misses, aI cy 9 z)] (va_A [(h, .inr (5, [.int m_h_bits, .int m_h_unit, .int m_h_offset, .int m_h_lean, .int m_h_ref, .int m_h_top, .ref q_h_misses, .ref q_h_resistors])), (q_h_misses, aI cy 9 m_h_misses)] sz)) 0 0 (va_A [(h, .inr (5, [.int m_h_bits, .int m_h_unit, .int m_h_offset, .int m_h_lean, .int m_h_ref, .int m_h_top, .ref q_h_misses, .ref q_h_resistors])), (q_h_misses, aI cy 9 m_h_misses)] sz) :=
  met_of (fun A => kqv D cy [(h, .inr (5, [.int m_h_bits, .int m_h_unit, .int m_h_offset, .int m_h_lean, .int m_h_ref, .int m_h_top, .ref q_h_misses, .ref q_h_resistors])), (q_h_misses, aI cy 9 z)] A) (by decide +kernel) (Nat.le_of_ble_eq_true rfl) (fun p e s m below meth c A ls C hP hD hS hl => k_X5_putMiss C hf hP hD hS hl)
theorem hd_X5_putMiss : yX5_putMiss.cls ≠ "java/lang/invoke/MethodHandle" ∧ yX5_putMiss.cls ≠ "java/lang/invoke/VarHandle" ∧ (parseMethodDescriptor yX5_putMiss.desc).map (fun d => d.parameters.length) = some 2 := by decide +kernel
def f_X5_codes (m_h_bits : Int32) : Option (Int32) :=
  some ((1 : Int32) <<< (m_h_bits &&& 31))
set_option maxHeartbeats 4000000 in
set_option maxRecDepth 100000 in
theorem k_X5_codes {h q_h_misses q_h_resistors : Nat} {m_h_bits : Int32} {m_h_unit : Int32} {m_h_offset : Int32} {m_h_lean : Int32} {m_h_ref : Int32} {m_h_top : Int32} {z : Int32} (C : cx p s m args meth c cX5_codes 1 (some .int) RX5 D cy A) (hf : f_X5_codes m_h_bits = some z) (hP : va_P D vwCl [(h, .inr (5, [.int m_h_bits, .int m_h_unit, .int m_h_offset, .int m_h_lean, .int m_h_ref, .int m_h_top, .ref q_h_misses, .ref q_h_resistors]))] H) (hD : va_D A [(h, .inr (5, [.int m_h_bits, .int m_h_unit, .int m_h_offset, .int m_h_lean, .int m_h_ref, .int m_h_top, .ref q_h_misses, .ref q_h_resistors]))]) (hS : va_S A s.heap H locs) (hl : lv_has ls 1 [(0, .ref h)]) : W p l e ({ frames := 0, cells := 0, slots := 0, locals := 0 } : Room) s m args below meth c H locs 0 0 (MQ below (kqi D cy [(h, .inr (5, [.int m_h_bits, .int m_h_unit, .int m_h_offset, .int m_h_lean, .int m_h_ref, .int m_h_top, .ref q_h_misses, .ref q_h_resistors]))] z A) args s 0 0 A) (F0 m 0 ls []) := by
  obtain ⟨hx, hb, hr, hml, hown, hts, hlk, hK, hA, hN⟩ := id C
  unfold f_X5_codes at hf
  refine lv_iconst (v := 1) hx hb dX5_codes_0 (by decide) ?_
  refine lv_aload_n hx hb dX5_codes_1 rfl (lv_at hl 0 rfl) ?_
  refine va_get (D := D) (ci := 5) (v := .int m_h_bits) (C := RX5) (T := TX5) (N := 8) hx hb hts ui_X5 hown hK hP 0 rfl rfl 0 (by decide) (hts _ fl_X5_19) (fun _ h9 => h9) rfl dX5_codes_2 ?_
  refine lv_ishl hx hb dX5_codes_5 ?_
  obtain rfl := Option.some.inj hf
  exact ret_i C hP hD hS dX5_codes_6
set_option maxRecDepth 100000 in
theorem c_X5_codes (l : Launch) (D : va_G) (cy : Nat → ClassId) (sz : Nat) (h q_h_misses q_h_resistors : Nat) (m_h_bits : Int32) (m_h_unit : Int32) (m_h_offset : Int32) (m_h_lean : Int32) (m_h_ref : Int32) (m_h_top : Int32) {z : Int32} (hf : f_X5_codes m_h_bits = some z) : Met l yX5_codes (.code yX5_codes cX5_codes 1 (some .int) :: tb) ({ frames := 0, cells := 0, slots := 0, locals := 0 } : Room) (kp D cy sz [.ref h] [(h, .inr (5, [.int m_h_bits, .int m_h_unit, .int m_h_offset, .int m_h_lean, .int m_h_ref, .int m_h_top, .ref q_h_misses, .ref q_h_resistors]))]) (kqi D cy [(h, .inr (5, [.int m_h_bits, .int m_h_unit, .int m_h_offset, .int m_h_lean, .int m_h_ref, .int m_h_top, .ref q_h_misses, .ref q_h_resistors]))] z (va_A [(h, .inr (5, [.int m_h_bits, .int m_h_unit, .int m_h_offset, .int m_h_lean, .int m_h_ref, .int m_h_top, .ref q_h_misses, .ref q_h_resistors]))] sz)) 0 0 (va_A [(h, .inr (5, [.int m_h_bits, .int m_h_unit, .int m_h_offset, .int m_h_lean, .int m_h_ref, .int m_h_top, .ref q_h_misses, .ref q_h_resistors]))] sz) :=
  met_of (fun A => kqi D cy [(h, .inr (5, [.int m_h_bits, .int m_h_unit, .int m_h_offset, .int m_h_lean, .int m_h_ref, .int m_h_top, .ref q_h_misses, .ref q_h_resistors]))] z A) (by decide +kernel) (Nat.le_of_ble_eq_true rfl) (fun p e s m below meth c A ls C hP hD hS hl => k_X5_codes C hf hP hD hS hl)
theorem hd_X5_codes : yX5_codes.cls ≠ "java/lang/invoke/MethodHandle" ∧ yX5_codes.cls ≠ "java/lang/invoke/VarHandle" ∧ (parseMethodDescriptor yX5_codes.desc).map (fun d => d.parameters.length) = some 0 := by decide +kernel
def f_X5_weightOf (v1 : Int32) (m_h_bits : Int32) (m_h_unit : Int32) (m_h_top : Int32) (m_h_misses : Nat → Int32) : Option (Int32) :=
  zb (f_X5_evenWeight v1 m_h_bits m_h_unit m_h_top) fun z3 =>
  zb (f_X5_missOf v1 m_h_bits m_h_top m_h_misses) fun z8 =>
  zb (f_J9_max_7cf53 (0 : Int32) (z3 + z8)) fun z12 =>
  some z12
set_option maxHeartbeats 4000000 in
set_option maxRecDepth 100000 in
theorem k_X5_weightOf {h q_h_misses q_h_resistors : Nat} {v1 : Int32} {m_h_bits : Int32} {m_h_unit : Int32} {m_h_offset : Int32} {m_h_lean : Int32} {m_h_ref : Int32} {m_h_top : Int32} {m_h_misses : Nat → Int32} {z : Int32} (C : cx p s m args meth c cX5_weightOf 2 (some .int) RX5 D cy A) (hf : f_X5_weightOf v1 m_h_bits m_h_unit m_h_top m_h_misses = some z) (hP : va_P D vwCl [(h, .inr (5, [.int m_h_bits, .int m_h_unit, .int m_h_offset, .int m_h_lean, .int m_h_ref, .int m_h_top, .ref q_h_misses, .ref q_h_resistors])), (q_h_misses, aI cy 9 m_h_misses)] H) (hD : va_D A [(h, .inr (5, [.int m_h_bits, .int m_h_unit, .int m_h_offset, .int m_h_lean, .int m_h_ref, .int m_h_top, .ref q_h_misses, .ref q_h_resistors])), (q_h_misses, aI cy 9 m_h_misses)]) (hS : va_S A s.heap H locs) (hl : lv_has ls 2 [(0, .ref h), (1, .int v1)]) : W p l e ({ frames := 2, cells := 0, slots := 0, locals := 42 } : Room) s m args below meth c H locs 0 0 (MQ below (kqi D cy [(h, .inr (5, [.int m_h_bits, .int m_h_unit, .int m_h_offset, .int m_h_lean, .int m_h_ref, .int m_h_top, .ref q_h_misses, .ref q_h_resistors])), (q_h_misses, aI cy 9 m_h_misses)] z A) args s 0 0 A) (F0 m 0 ls []) := by
  obtain ⟨hx, hb, hr, hml, hown, hts, hlk, hK, hA, hN⟩ := id C
  unfold f_X5_weightOf at hf
  refine lv_iconst (v := 0) hx hb dX5_weightOf_0 (by decide) ?_
  refine lv_aload_n hx hb dX5_weightOf_1 rfl (lv_at hl 0 rfl) ?_
  refine lv_iload_n hx hb dX5_weightOf_2 rfl (lv_at hl 1 rfl) ?_
  obtain ⟨z3, hz3, hf⟩ := zb_of hf
  refine goI (wr := [(q_h_misses, aI cy 9 m_h_misses)]) (ws' := [(h, .inr (5, [.int m_h_bits, .int m_h_unit, .int m_h_offset, .int m_h_lean, .int m_h_ref, .int m_h_top, .ref q_h_misses, .ref q_h_resistors])), (q_h_misses, aI cy 9 m_h_misses)]) C (runV (n := 1) (As := [.int v1]) (rest := [.int (0 : Int32)]) C (c_X5_evenWeight l D cy H.size h q_h_misses q_h_resistors v1 m_h_bits m_h_unit m_h_offset m_h_lean m_h_ref m_h_top hz3) ml_X5_64 im_X5_evenWeight se_X5_evenWeight ii_X5 cd_X5_evenWeight hd_X5_evenWeight rfl rfl ⟨Nat.le_of_ble_eq_true rfl, Nat.le_of_ble_eq_true rfl⟩ (hP.sub [0] rfl) (hD.sub [0] (by decide) rfl) hS rfl rfl rfl hl.1 rfl (Nat.le_of_ble_eq_true rfl) dX5_weightOf_3) hP hD hS [0] [1] [1, 0] rfl rfl (by decide) (by decide) rfl (by decide) (fun H locs hP hD hS => ?_)
  refine lv_aload_n hx hb dX5_weightOf_6 rfl (lv_at hl 0 rfl) ?_
  refine lv_iload_n hx hb dX5_weightOf_7 rfl (lv_at hl 1 rfl) ?_
  obtain ⟨z8, hz8, hf⟩ := zb_of hf
  refine goI (wr := []) (ws' := [(h, .inr (5, [.int m_h_bits, .int m_h_unit, .int m_h_offset, .int m_h_lean, .int m_h_ref, .int m_h_top, .ref q_h_misses, .ref q_h_resistors])), (q_h_misses, aI cy 9 m_h_misses)]) C (runV (n := 1) (As := [.int v1]) (rest := [.int z3, .int (0 : Int32)]) C (c_X5_missOf l D cy H.size h q_h_misses q_h_resistors v1 m_h_bits m_h_unit m_h_offset m_h_lean m_h_ref m_h_top m_h_misses hz8) ml_X5_68 im_X5_missOf se_X5_missOf ii_X5 cd_X5_missOf hd_X5_missOf rfl rfl ⟨Nat.le_of_ble_eq_true rfl, Nat.le_of_ble_eq_true rfl⟩ (hP.sub [0, 1] rfl) (hD.sub [0, 1] (by decide) rfl) hS rfl rfl rfl hl.1 rfl (Nat.le_of_ble_eq_true rfl) dX5_weightOf_8) hP hD hS [0, 1] [] [0, 1] rfl rfl (by decide) (by decide) rfl (by decide) (fun H locs hP hD hS => ?_)
  refine lv_iadd hx hb dX5_weightOf_11 ?_
  obtain ⟨z12, hz12, hf⟩ := zb_of hf
  refine goI (wr := [(h, .inr (5, [.int m_h_bits, .int m_h_unit, .int m_h_offset, .int m_h_lean, .int m_h_ref, .int m_h_top, .ref q_h_misses, .ref q_h_resistors])), (q_h_misses, aI cy 9 m_h_misses)]) (ws' := [(h, .inr (5, [.int m_h_bits, .int m_h_unit, .int m_h_offset, .int m_h_lean, .int m_h_ref, .int m_h_top, .ref q_h_misses, .ref q_h_resistors])), (q_h_misses, aI cy 9 m_h_misses)]) C (runS (n := 2) (As := [.int (0 : Int32), .int (z3 + z8)]) (rest := []) C (c_J9_max_7cf53 l D cy H.size (0 : Int32) (z3 + z8) hz12) ml_X5_71 st_J9_max_7cf53 ii_J9 cd_J9_max_7cf53 hd_J9_max_7cf53 rfl rfl ⟨Nat.le_of_ble_eq_true rfl, Nat.le_of_ble_eq_true rfl⟩ (hP.sub [] rfl) (hD.sub [] (by decide) rfl) hS rfl hl.1 rfl (Nat.le_of_ble_eq_true rfl) dX5_weightOf_12) hP hD hS [] [0, 1] [0, 1] rfl rfl (by decide) (by decide) rfl (by decide) (fun H locs hP hD hS => ?_)
  obtain rfl := Option.some.inj hf
  exact ret_i C hP hD hS dX5_weightOf_15
set_option maxRecDepth 100000 in
theorem c_X5_weightOf (l : Launch) (D : va_G) (cy : Nat → ClassId) (sz : Nat) (h q_h_misses q_h_resistors : Nat) (v1 : Int32) (m_h_bits : Int32) (m_h_unit : Int32) (m_h_offset : Int32) (m_h_lean : Int32) (m_h_ref : Int32) (m_h_top : Int32) (m_h_misses : Nat → Int32) {z : Int32} (hf : f_X5_weightOf v1 m_h_bits m_h_unit m_h_top m_h_misses = some z) : Met l yX5_weightOf (.code yX5_weightOf cX5_weightOf 2 (some .int) :: tb) ({ frames := 2, cells := 0, slots := 0, locals := 42 } : Room) (kp D cy sz [.ref h, .int v1] [(h, .inr (5, [.int m_h_bits, .int m_h_unit, .int m_h_offset, .int m_h_lean, .int m_h_ref, .int m_h_top, .ref q_h_misses, .ref q_h_resistors])), (q_h_misses, aI cy 9 m_h_misses)]) (kqi D cy [(h, .inr (5, [.int m_h_bits, .int m_h_unit, .int m_h_offset, .int m_h_lean, .int m_h_ref, .int m_h_top, .ref q_h_misses, .ref q_h_resistors])), (q_h_misses, aI cy 9 m_h_misses)] z (va_A [(h, .inr (5, [.int m_h_bits, .int m_h_unit, .int m_h_offset, .int m_h_lean, .int m_h_ref, .int m_h_top, .ref q_h_misses, .ref q_h_resistors])), (q_h_misses, aI cy 9 m_h_misses)] sz)) 0 0 (va_A [(h, .inr (5, [.int m_h_bits, .int m_h_unit, .int m_h_offset, .int m_h_lean, .int m_h_ref, .int m_h_top, .ref q_h_misses, .ref q_h_resistors])), (q_h_misses, aI cy 9 m_h_misses)] sz) :=
  met_of (fun A => kqi D cy [(h, .inr (5, [.int m_h_bits, .int m_h_unit, .int m_h_offset, .int m_h_lean, .int m_h_ref, .int m_h_top, .ref q_h_misses, .ref q_h_resistors])), (q_h_misses, aI cy 9 m_h_misses)] z A) (by decide +kernel) (Nat.le_of_ble_eq_true rfl) (fun p e s m below meth c A ls C hP hD hS hl => k_X5_weightOf C hf hP hD hS hl)
theorem hd_X5_weightOf : yX5_weightOf.cls ≠ "java/lang/invoke/MethodHandle" ∧ yX5_weightOf.cls ≠ "java/lang/invoke/VarHandle" ∧ (parseMethodDescriptor yX5_weightOf.desc).map (fun d => d.parameters.length) = some 1 := by decide +kernel
def f_X5_isCode (v1 : Int32) (m_h_bits : Int32) : Option (Int32) :=
  if v1 < 0 then
    some (0 : Int32)
  else
    zb (f_X5_codes m_h_bits) fun z6 =>
    if z6 ≤ v1 then
      some (0 : Int32)
    else
      some (1 : Int32)
set_option maxHeartbeats 4000000 in
set_option maxRecDepth 100000 in
theorem k_X5_isCode {h q_h_misses q_h_resistors : Nat} {v1 : Int32} {m_h_bits : Int32} {m_h_unit : Int32} {m_h_offset : Int32} {m_h_lean : Int32} {m_h_ref : Int32} {m_h_top : Int32} {z : Int32} (C : cx p s m args meth c cX5_isCode 2 (some .boolean) RX5 D cy A) (hf : f_X5_isCode v1 m_h_bits = some z) (hP : va_P D vwCl [(h, .inr (5, [.int m_h_bits, .int m_h_unit, .int m_h_offset, .int m_h_lean, .int m_h_ref, .int m_h_top, .ref q_h_misses, .ref q_h_resistors]))] H) (hD : va_D A [(h, .inr (5, [.int m_h_bits, .int m_h_unit, .int m_h_offset, .int m_h_lean, .int m_h_ref, .int m_h_top, .ref q_h_misses, .ref q_h_resistors]))]) (hS : va_S A s.heap H locs) (hl : lv_has ls 2 [(0, .ref h), (1, .int v1)]) : W p l e ({ frames := 1, cells := 0, slots := 0, locals := 20 } : Room) s m args below meth c H locs 0 0 (MQ below (kqz D cy [(h, .inr (5, [.int m_h_bits, .int m_h_unit, .int m_h_offset, .int m_h_lean, .int m_h_ref, .int m_h_top, .ref q_h_misses, .ref q_h_resistors]))] z A) args s 0 0 A) (F0 m 0 ls []) := by
  obtain ⟨hx, hb, hr, hml, hown, hts, hlk, hK, hA, hN⟩ := id C
  unfold f_X5_isCode at hf
  refine lv_iload_n hx hb dX5_isCode_0 rfl (lv_at hl 1 rfl) ?_
  refine lv_if_lt (tgt := 16) hx hb dX5_isCode_1 (by decide) (fun c1 => ?_) (fun c1 => ?_)
  · have hf := zt c1 hf
    refine lv_iconst (v := 0) hx hb dX5_isCode_16 (by decide) ?_
    obtain rfl := Option.some.inj hf
    exact ret_z (v := (0 : Int32)) C rfl hP hD hS dX5_isCode_17
  · have hf := zf c1 hf
    refine lv_iload_n hx hb dX5_isCode_4 rfl (lv_at hl 1 rfl) ?_
    refine lv_aload_n hx hb dX5_isCode_5 rfl (lv_at hl 0 rfl) ?_
    obtain ⟨z6, hz6, hf⟩ := zb_of hf
    refine goI (wr := []) (ws' := [(h, .inr (5, [.int m_h_bits, .int m_h_unit, .int m_h_offset, .int m_h_lean, .int m_h_ref, .int m_h_top, .ref q_h_misses, .ref q_h_resistors]))]) C (runV (n := 0) (As := []) (rest := [.int v1]) C (c_X5_codes l D cy H.size h q_h_misses q_h_resistors m_h_bits m_h_unit m_h_offset m_h_lean m_h_ref m_h_top hz6) ml_X5_51 im_X5_codes se_X5_codes ii_X5 cd_X5_codes hd_X5_codes rfl rfl ⟨Nat.le_of_ble_eq_true rfl, Nat.le_of_ble_eq_true rfl⟩ (hP.sub [0] rfl) (hD.sub [0] (by decide) rfl) hS rfl rfl rfl hl.1 rfl (Nat.le_of_ble_eq_true rfl) dX5_isCode_6) hP hD hS [0] [] [0] rfl rfl (by decide) (by decide) rfl (by decide) (fun H locs hP hD hS => ?_)
    refine lv_icmp_ge (tgt := 16) hx hb dX5_isCode_9 (by decide) (fun c9 => ?_) (fun c9 => ?_)
    · have hf := zt c9 hf
      refine lv_iconst (v := 0) hx hb dX5_isCode_16 (by decide) ?_
      obtain rfl := Option.some.inj hf
      exact ret_z (v := (0 : Int32)) C rfl hP hD hS dX5_isCode_17
    · have hf := zf c9 hf
      refine lv_iconst (v := 1) hx hb dX5_isCode_12 (by decide) ?_
      refine lv_goto (tgt := 17) hx hb dX5_isCode_13 (by decide) ?_
      obtain rfl := Option.some.inj hf
      exact ret_z (v := (1 : Int32)) C rfl hP hD hS dX5_isCode_17
set_option maxRecDepth 100000 in
theorem c_X5_isCode (l : Launch) (D : va_G) (cy : Nat → ClassId) (sz : Nat) (h q_h_misses q_h_resistors : Nat) (v1 : Int32) (m_h_bits : Int32) (m_h_unit : Int32) (m_h_offset : Int32) (m_h_lean : Int32) (m_h_ref : Int32) (m_h_top : Int32) {z : Int32} (hf : f_X5_isCode v1 m_h_bits = some z) : Met l yX5_isCode (.code yX5_isCode cX5_isCode 2 (some .boolean) :: tb) ({ frames := 1, cells := 0, slots := 0, locals := 20 } : Room) (kp D cy sz [.ref h, .int v1] [(h, .inr (5, [.int m_h_bits, .int m_h_unit, .int m_h_offset, .int m_h_lean, .int m_h_ref, .int m_h_top, .ref q_h_misses, .ref q_h_resistors]))]) (kqz D cy [(h, .inr (5, [.int m_h_bits, .int m_h_unit, .int m_h_offset, .int m_h_lean, .int m_h_ref, .int m_h_top, .ref q_h_misses, .ref q_h_resistors]))] z (va_A [(h, .inr (5, [.int m_h_bits, .int m_h_unit, .int m_h_offset, .int m_h_lean, .int m_h_ref, .int m_h_top, .ref q_h_misses, .ref q_h_resistors]))] sz)) 0 0 (va_A [(h, .inr (5, [.int m_h_bits, .int m_h_unit, .int m_h_offset, .int m_h_lean, .int m_h_ref, .int m_h_top, .ref q_h_misses, .ref q_h_resistors]))] sz) :=
  met_of (fun A => kqz D cy [(h, .inr (5, [.int m_h_bits, .int m_h_unit, .int m_h_offset, .int m_h_lean, .int m_h_ref, .int m_h_top, .ref q_h_misses, .ref q_h_resistors]))] z A) (by decide +kernel) (Nat.le_of_ble_eq_true rfl) (fun p e s m below meth c A ls C hP hD hS hl => k_X5_isCode C hf hP hD hS hl)
theorem hd_X5_isCode : yX5_isCode.cls ≠ "java/lang/invoke/MethodHandle" ∧ yX5_isCode.cls ≠ "java/lang/invoke/VarHandle" ∧ (parseMethodDescriptor yX5_isCode.desc).map (fun d => d.parameters.length) = some 1 := by decide +kernel
def f_X5_reset (m_h_misses : Nat → Int32) (m_h_resistors : Nat → Int32) : Option (Int32 × Int32 × Int32 × Int32 × Int32 × Int32 × (Nat → Int32) × (Nat → Int32)) :=
  zb (f_J7_fill_53178 (0 : Int32) m_h_misses 9) fun z37 =>
  zb (f_J7_fill_53178 (10 : Int32) m_h_resistors 16) fun z46 =>
  some ((4 : Int32), (16 : Int32), (0 : Int32), (0 : Int32), (100 : Int32), (0 : Int32), z37, z46)
set_option maxHeartbeats 4000000 in
set_option maxRecDepth 100000 in
theorem k_X5_reset {h q_h_misses q_h_resistors : Nat} {m_h_bits : Int32} {m_h_unit : Int32} {m_h_offset : Int32} {m_h_lean : Int32} {m_h_ref : Int32} {m_h_top : Int32} {m_h_misses : Nat → Int32} {m_h_resistors : Nat → Int32} {z : Int32 × Int32 × Int32 × Int32 × Int32 × Int32 × (Nat → Int32) × (Nat → Int32)} (C : cx p s m args meth c cX5_reset 1 none RX5 D cy A) (hf : f_X5_reset m_h_misses m_h_resistors = some z) (hP : va_P D vwCl [(h, .inr (5, [.int m_h_bits, .int m_h_unit, .int m_h_offset, .int m_h_lean, .int m_h_ref, .int m_h_top, .ref q_h_misses, .ref q_h_resistors])), (q_h_misses, aI cy 9 m_h_misses), (q_h_resistors, aI cy 16 m_h_resistors)] H) (hD : va_D A [(h, .inr (5, [.int m_h_bits, .int m_h_unit, .int m_h_offset, .int m_h_lean, .int m_h_ref, .int m_h_top, .ref q_h_misses, .ref q_h_resistors])), (q_h_misses, aI cy 9 m_h_misses), (q_h_resistors, aI cy 16 m_h_resistors)]) (hS : va_S A s.heap H locs) (hl : lv_has ls 1 [(0, .ref h)]) : W p l e ({ frames := 1, cells := 0, slots := 0, locals := 23 } : Room) s m args below meth c H locs 0 0 (MQ below (kqv D cy [(h, .inr (5, [.int z.1, .int z.2.1, .int z.2.2.1, .int z.2.2.2.1, .int z.2.2.2.2.1, .int z.2.2.2.2.2.1, .ref q_h_misses, .ref q_h_resistors])), (q_h_misses, aI cy 9 z.2.2.2.2.2.2.1), (q_h_resistors, aI cy 16 z.2.2.2.2.2.2.2)] A) args s 0 0 A) (F0 m 0 ls []) := by
  obtain ⟨hx, hb, hr, hml, hown, hts, hlk, hK, hA, hN⟩ := id C
  unfold f_X5_reset at hf
  refine lv_aload_n hx hb dX5_reset_0 rfl (lv_at hl 0 rfl) ?_
  refine lv_iconst (v := 4) hx hb dX5_reset_1 (by decide) ?_
  refine va_put (D := D) (ci := 5) (v := .int (4 : Int32)) (ty := .int) (C := RX5) (T := TX5) (N := 8) hx hb hts ui_X5 tyX5 tyX5_ok nmX5 hown hK hP hD hS 0 rfl rfl 0 (by decide) (hts _ fl_X5_19) (fun _ h9 => h9) rfl rfl rfl rfl (Nat.le_of_ble_eq_true rfl) dX5_reset_2 (fun H locs hP hD hS => ?_)
  have hP : va_P D vwCl [(h, .inr (5, [.int (4 : Int32), .int m_h_unit, .int m_h_offset, .int m_h_lean, .int m_h_ref, .int m_h_top, .ref q_h_misses, .ref q_h_resistors])), (q_h_misses, aI cy 9 m_h_misses), (q_h_resistors, aI cy 16 m_h_resistors)] H := hP
  have hD : va_D A [(h, .inr (5, [.int (4 : Int32), .int m_h_unit, .int m_h_offset, .int m_h_lean, .int m_h_ref, .int m_h_top, .ref q_h_misses, .ref q_h_resistors])), (q_h_misses, aI cy 9 m_h_misses), (q_h_resistors, aI cy 16 m_h_resistors)] := hD
  refine lv_aload_n hx hb dX5_reset_5 rfl (lv_at hl 0 rfl) ?_
  refine lv_bipush (v := 16) hx hb dX5_reset_6 (by decide) ?_
  refine va_put (D := D) (ci := 5) (v := .int (16 : Int32)) (ty := .int) (C := RX5) (T := TX5) (N := 8) hx hb hts ui_X5 tyX5 tyX5_ok nmX5 hown hK hP hD hS 0 rfl rfl 1 (by decide) (hts _ fl_X5_23) (fun _ h9 => h9) rfl rfl rfl rfl (Nat.le_of_ble_eq_true rfl) dX5_reset_8 (fun H locs hP hD hS => ?_)
  have hP : va_P D vwCl [(h, .inr (5, [.int (4 : Int32), .int (16 : Int32), .int m_h_offset, .int m_h_lean, .int m_h_ref, .int m_h_top, .ref q_h_misses, .ref q_h_resistors])), (q_h_misses, aI cy 9 m_h_misses), (q_h_resistors, aI cy 16 m_h_resistors)] H := hP
  have hD : va_D A [(h, .inr (5, [.int (4 : Int32), .int (16 : Int32), .int m_h_offset, .int m_h_lean, .int m_h_ref, .int m_h_top, .ref q_h_misses, .ref q_h_resistors])), (q_h_misses, aI cy 9 m_h_misses), (q_h_resistors, aI cy 16 m_h_resistors)] := hD
  refine lv_aload_n hx hb dX5_reset_11 rfl (lv_at hl 0 rfl) ?_
  refine lv_iconst (v := 0) hx hb dX5_reset_12 (by decide) ?_
  refine va_put (D := D) (ci := 5) (v := .int (0 : Int32)) (ty := .int) (C := RX5) (T := TX5) (N := 8) hx hb hts ui_X5 tyX5 tyX5_ok nmX5 hown hK hP hD hS 0 rfl rfl 2 (by decide) (hts _ fl_X5_26) (fun _ h9 => h9) rfl rfl rfl rfl (Nat.le_of_ble_eq_true rfl) dX5_reset_13 (fun H locs hP hD hS => ?_)
  have hP : va_P D vwCl [(h, .inr (5, [.int (4 : Int32), .int (16 : Int32), .int (0 : Int32), .int m_h_lean, .int m_h_ref, .int m_h_top, .ref q_h_misses, .ref q_h_resistors])), (q_h_misses, aI cy 9 m_h_misses), (q_h_resistors, aI cy 16 m_h_resistors)] H := hP
  have hD : va_D A [(h, .inr (5, [.int (4 : Int32), .int (16 : Int32), .int (0 : Int32), .int m_h_lean, .int m_h_ref, .int m_h_top, .ref q_h_misses, .ref q_h_resistors])), (q_h_misses, aI cy 9 m_h_misses), (q_h_resistors, aI cy 16 m_h_resistors)] := hD
  refine lv_aload_n hx hb dX5_reset_16 rfl (lv_at hl 0 rfl) ?_
  refine lv_iconst (v := 0) hx hb dX5_reset_17 (by decide) ?_
  refine va_put (D := D) (ci := 5) (v := .int (0 : Int32)) (ty := .int) (C := RX5) (T := TX5) (N := 8) hx hb hts ui_X5 tyX5 tyX5_ok nmX5 hown hK hP hD hS 0 rfl rfl 3 (by decide) (hts _ fl_X5_29) (fun _ h9 => h9) rfl rfl rfl rfl (Nat.le_of_ble_eq_true rfl) dX5_reset_18 (fun H locs hP hD hS => ?_)
  have hP : va_P D vwCl [(h, .inr (5, [.int (4 : Int32), .int (16 : Int32), .int (0 : Int32), .int (0 : Int32), .int m_h_ref, .int m_h_top, .ref q_h_misses, .ref q_h_resistors])), (q_h_misses, aI cy 9 m_h_misses), (q_h_resistors, aI cy 16 m_h_resistors)] H := hP
  have hD : va_D A [(h, .inr (5, [.int (4 : Int32), .int (16 : Int32), .int (0 : Int32), .int (0 : Int32), .int m_h_ref, .int m_h_top, .ref q_h_misses, .ref q_h_resistors])), (q_h_misses, aI cy 9 m_h_misses), (q_h_resistors, aI cy 16 m_h_resistors)] := hD
  refine lv_aload_n hx hb dX5_reset_21 rfl (lv_at hl 0 rfl) ?_
  refine lv_bipush (v := 100) hx hb dX5_reset_22 (by decide) ?_
  refine va_put (D := D) (ci := 5) (v := .int (100 : Int32)) (ty := .int) (C := RX5) (T := TX5) (N := 8) hx hb hts ui_X5 tyX5 tyX5_ok nmX5 hown hK hP hD hS 0 rfl rfl 4 (by decide) (hts _ fl_X5_32) (fun _ h9 => h9) rfl rfl rfl rfl (Nat.le_of_ble_eq_true rfl) dX5_reset_24 (fun H locs hP hD hS => ?_)
  have hP : va_P D vwCl [(h, .inr (5, [.int (4 : Int32), .int (16 : Int32), .int (0 : Int32), .int (0 : Int32), .int (100 : Int32), .int m_h_top, .ref q_h_misses, .ref q_h_resistors])), (q_h_misses, aI cy 9 m_h_misses), (q_h_resistors, aI cy 16 m_h_resistors)] H := hP
  have hD : va_D A [(h, .inr (5, [.int (4 : Int32), .int (16 : Int32), .int (0 : Int32), .int (0 : Int32), .int (100 : Int32), .int m_h_top, .ref q_h_misses, .ref q_h_resistors])), (q_h_misses, aI cy 9 m_h_misses), (q_h_resistors, aI cy 16 m_h_resistors)] := hD
  refine lv_aload_n hx hb dX5_reset_27 rfl (lv_at hl 0 rfl) ?_
  refine lv_iconst (v := 0) hx hb dX5_reset_28 (by decide) ?_
  refine va_put (D := D) (ci := 5) (v := .int (0 : Int32)) (ty := .boolean) (C := RX5) (T := TX5) (N := 8) hx hb hts ui_X5 tyX5 tyX5_ok nmX5 hown hK hP hD hS 0 rfl rfl 5 (by decide) (hts _ fl_X5_35) (fun _ h9 => h9) rfl rfl rfl rfl (Nat.le_of_ble_eq_true rfl) dX5_reset_29 (fun H locs hP hD hS => ?_)
  have hP : va_P D vwCl [(h, .inr (5, [.int (4 : Int32), .int (16 : Int32), .int (0 : Int32), .int (0 : Int32), .int (100 : Int32), .int (0 : Int32), .ref q_h_misses, .ref q_h_resistors])), (q_h_misses, aI cy 9 m_h_misses), (q_h_resistors, aI cy 16 m_h_resistors)] H := hP
  have hD : va_D A [(h, .inr (5, [.int (4 : Int32), .int (16 : Int32), .int (0 : Int32), .int (0 : Int32), .int (100 : Int32), .int (0 : Int32), .ref q_h_misses, .ref q_h_resistors])), (q_h_misses, aI cy 9 m_h_misses), (q_h_resistors, aI cy 16 m_h_resistors)] := hD
  refine lv_aload_n hx hb dX5_reset_32 rfl (lv_at hl 0 rfl) ?_
  refine va_get (D := D) (ci := 5) (v := .ref q_h_misses) (C := RX5) (T := TX5) (N := 8) hx hb hts ui_X5 hown hK hP 0 rfl rfl 6 (by decide) (hts _ fl_X5_9) (fun _ h9 => h9) rfl dX5_reset_33 ?_
  refine lv_iconst (v := 0) hx hb dX5_reset_36 (by decide) ?_
  obtain ⟨z37, hz37, hf⟩ := zb_of hf
  refine goV (wr := [(h, .inr (5, [.int (4 : Int32), .int (16 : Int32), .int (0 : Int32), .int (0 : Int32), .int (100 : Int32), .int (0 : Int32), .ref q_h_misses, .ref q_h_resistors])), (q_h_resistors, aI cy 16 m_h_resistors)]) (ws' := [(h, .inr (5, [.int (4 : Int32), .int (16 : Int32), .int (0 : Int32), .int (0 : Int32), .int (100 : Int32), .int (0 : Int32), .ref q_h_misses, .ref q_h_resistors])), (q_h_misses, aI cy 9 z37), (q_h_resistors, aI cy 16 m_h_resistors)]) C (runS (n := 2) (As := [.ref q_h_misses, .int (0 : Int32)]) (rest := []) C (c_J7_fill_53178 l D cy H.size q_h_misses (0 : Int32) m_h_misses 9 hz37) ml_X5_39 st_J7_fill_53178 ii_J7 cd_J7_fill_53178 hd_J7_fill_53178 rfl rfl ⟨Nat.le_of_ble_eq_true rfl, Nat.le_of_ble_eq_true rfl⟩ (hP.sub [1] rfl) (hD.sub [1] (by decide) rfl) hS rfl hl.1 rfl (Nat.le_of_ble_eq_true rfl) dX5_reset_37) hP hD hS [1] [0, 2] [0, 2, 1] rfl rfl (by decide) (by decide) rfl (by decide) (fun H locs hP hD hS => ?_)
  refine lv_aload_n hx hb dX5_reset_40 rfl (lv_at hl 0 rfl) ?_
  refine va_get (D := D) (ci := 5) (v := .ref q_h_resistors) (C := RX5) (T := TX5) (N := 8) hx hb hts ui_X5 hown hK hP 0 rfl rfl 7 (by decide) (hts _ fl_X5_13) (fun _ h9 => h9) rfl dX5_reset_41 ?_
  refine lv_bipush (v := 10) hx hb dX5_reset_44 (by decide) ?_
  obtain ⟨z46, hz46, hf⟩ := zb_of hf
  refine goV (wr := [(h, .inr (5, [.int (4 : Int32), .int (16 : Int32), .int (0 : Int32), .int (0 : Int32), .int (100 : Int32), .int (0 : Int32), .ref q_h_misses, .ref q_h_resistors])), (q_h_misses, aI cy 9 z37)]) (ws' := [(h, .inr (5, [.int (4 : Int32), .int (16 : Int32), .int (0 : Int32), .int (0 : Int32), .int (100 : Int32), .int (0 : Int32), .ref q_h_misses, .ref q_h_resistors])), (q_h_misses, aI cy 9 z37), (q_h_resistors, aI cy 16 z46)]) C (runS (n := 2) (As := [.ref q_h_resistors, .int (10 : Int32)]) (rest := []) C (c_J7_fill_53178 l D cy H.size q_h_resistors (10 : Int32) m_h_resistors 16 hz46) ml_X5_39 st_J7_fill_53178 ii_J7 cd_J7_fill_53178 hd_J7_fill_53178 rfl rfl ⟨Nat.le_of_ble_eq_true rfl, Nat.le_of_ble_eq_true rfl⟩ (hP.sub [2] rfl) (hD.sub [2] (by decide) rfl) hS rfl hl.1 rfl (Nat.le_of_ble_eq_true rfl) dX5_reset_46) hP hD hS [2] [0, 1] [0, 1, 2] rfl rfl (by decide) (by decide) rfl (by decide) (fun H locs hP hD hS => ?_)
  obtain rfl := Option.some.inj hf
  exact ret_v C hP hD hS dX5_reset_49
set_option maxRecDepth 100000 in
theorem c_X5_reset (l : Launch) (D : va_G) (cy : Nat → ClassId) (sz : Nat) (h q_h_misses q_h_resistors : Nat) (m_h_bits : Int32) (m_h_unit : Int32) (m_h_offset : Int32) (m_h_lean : Int32) (m_h_ref : Int32) (m_h_top : Int32) (m_h_misses : Nat → Int32) (m_h_resistors : Nat → Int32) {z : Int32 × Int32 × Int32 × Int32 × Int32 × Int32 × (Nat → Int32) × (Nat → Int32)} (hf : f_X5_reset m_h_misses m_h_resistors = some z) : Met l yX5_reset (.code yX5_reset cX5_reset 1 none :: tb) ({ frames := 1, cells := 0, slots := 0, locals := 23 } : Room) (kp D cy sz [.ref h] [(h, .inr (5, [.int m_h_bits, .int m_h_unit, .int m_h_offset, .int m_h_lean, .int m_h_ref, .int m_h_top, .ref q_h_misses, .ref q_h_resistors])), (q_h_misses, aI cy 9 m_h_misses), (q_h_resistors, aI cy 16 m_h_resistors)]) (kqv D cy [(h, .inr (5, [.int z.1, .int z.2.1, .int z.2.2.1, .int z.2.2.2.1, .int z.2.2.2.2.1, .int z.2.2.2.2.2.1, .ref q_h_misses, .ref q_h_resistors])), (q_h_misses, aI cy 9 z.2.2.2.2.2.2.1), (q_h_resistors, aI cy 16 z.2.2.2.2.2.2.2)] (va_A [(h, .inr (5, [.int m_h_bits, .int m_h_unit, .int m_h_offset, .int m_h_lean, .int m_h_ref, .int m_h_top, .ref q_h_misses, .ref q_h_resistors])), (q_h_misses, aI cy 9 m_h_misses), (q_h_resistors, aI cy 16 m_h_resistors)] sz)) 0 0 (va_A [(h, .inr (5, [.int m_h_bits, .int m_h_unit, .int m_h_offset, .int m_h_lean, .int m_h_ref, .int m_h_top, .ref q_h_misses, .ref q_h_resistors])), (q_h_misses, aI cy 9 m_h_misses), (q_h_resistors, aI cy 16 m_h_resistors)] sz) :=
  met_of (fun A => kqv D cy [(h, .inr (5, [.int z.1, .int z.2.1, .int z.2.2.1, .int z.2.2.2.1, .int z.2.2.2.2.1, .int z.2.2.2.2.2.1, .ref q_h_misses, .ref q_h_resistors])), (q_h_misses, aI cy 9 z.2.2.2.2.2.2.1), (q_h_resistors, aI cy 16 z.2.2.2.2.2.2.2)] A) (by decide +kernel) (Nat.le_of_ble_eq_true rfl) (fun p e s m below meth c A ls C hP hD hS hl => k_X5_reset C hf hP hD hS hl)
theorem hd_X5_reset : yX5_reset.cls ≠ "java/lang/invoke/MethodHandle" ∧ yX5_reset.cls ≠ "java/lang/invoke/VarHandle" ∧ (parseMethodDescriptor yX5_reset.desc).map (fun d => d.parameters.length) = some 0 := by decide +kernel
def f_X5_putResistor (v1 : Int32) (v2 : Int32) (m_h_resistors : Nat → Int32) : Option ((Nat → Int32)) :=
  if v1 < 0 then
    some m_h_resistors
  else
    if (16 : Int32) ≤ v1 then
      some m_h_resistors
    else
      zc v1 16 <|
      zl (upd m_h_resistors v1.toNatClampNeg v2) fun a19 =>
      some a19
set_option maxHeartbeats 4000000 in
set_option maxRecDepth 100000 in
theorem k_X5_putResistor {h q_h_misses q_h_resistors : Nat} {v1 : Int32} {v2 : Int32} {m_h_bits : Int32} {m_h_unit : Int32} {m_h_offset : Int32} {m_h_lean : Int32} {m_h_ref : Int32} {m_h_top : Int32} {m_h_resistors : Nat → Int32} {z : (Nat → Int32)} (C : cx p s m args meth c cX5_putResistor 3 none RX5 D cy A) (hf : f_X5_putResistor v1 v2 m_h_resistors = some z) (hP : va_P D vwCl [(h, .inr (5, [.int m_h_bits, .int m_h_unit, .int m_h_offset, .int m_h_lean, .int m_h_ref, .int m_h_top, .ref q_h_misses, .ref q_h_resistors])), (q_h_resistors, aI cy 16 m_h_resistors)] H) (hD : va_D A [(h, .inr (5, [.int m_h_bits, .int m_h_unit, .int m_h_offset, .int m_h_lean, .int m_h_ref, .int m_h_top, .ref q_h_misses, .ref q_h_resistors])), (q_h_resistors, aI cy 16 m_h_resistors)]) (hS : va_S A s.heap H locs) (hl : lv_has ls 3 [(0, .ref h), (1, .int v1), (2, .int v2)]) : W p l e ({ frames := 0, cells := 0, slots := 0, locals := 0 } : Room) s m args below meth c H locs 0 0 (MQ below (kqv D cy [(h, .inr (5, [.int m_h_bits, .int m_h_unit, .int m_h_offset, .int m_h_lean, .int m_h_ref, .int m_h_top, .ref q_h_misses, .ref q_h_resistors])), (q_h_resistors, aI cy 16 z)] A) args s 0 0 A) (F0 m 0 ls []) := by
  obtain ⟨hx, hb, hr, hml, hown, hts, hlk, hK, hA, hN⟩ := id C
  unfold f_X5_putResistor at hf
  refine lv_iload_n hx hb dX5_putResistor_0 rfl (lv_at hl 1 rfl) ?_
  refine lv_if_lt (tgt := 20) hx hb dX5_putResistor_1 (by decide) (fun c1 => ?_) (fun c1 => ?_)
  · have hf := zt c1 hf
    obtain rfl := Option.some.inj hf
    exact ret_v C hP hD hS dX5_putResistor_20
  · have hf := zf c1 hf
    refine lv_iload_n hx hb dX5_putResistor_4 rfl (lv_at hl 1 rfl) ?_
    refine lv_aload_n hx hb dX5_putResistor_5 rfl (lv_at hl 0 rfl) ?_
    refine va_get (D := D) (ci := 5) (v := .ref q_h_resistors) (C := RX5) (T := TX5) (N := 8) hx hb hts ui_X5 hown hK hP 0 rfl rfl 7 (by decide) (hts _ fl_X5_13) (fun _ h9 => h9) rfl dX5_putResistor_6 ?_
    refine va_alen (v := (16 : Int32)) hx hb hK hP 1 1 rfl rfl rfl dX5_putResistor_9 ?_
    refine lv_icmp_ge (tgt := 20) hx hb dX5_putResistor_10 (by decide) (fun c10 => ?_) (fun c10 => ?_)
    · have hf := zt c10 hf
      obtain rfl := Option.some.inj hf
      exact ret_v C hP hD hS dX5_putResistor_20
    · have hf := zf c10 hf
      refine lv_aload_n hx hb dX5_putResistor_13 rfl (lv_at hl 0 rfl) ?_
      refine va_get (D := D) (ci := 5) (v := .ref q_h_resistors) (C := RX5) (T := TX5) (N := 8) hx hb hts ui_X5 hown hK hP 0 rfl rfl 7 (by decide) (hts _ fl_X5_13) (fun _ h9 => h9) rfl dX5_putResistor_14 ?_
      refine lv_iload_n hx hb dX5_putResistor_17 rfl (lv_at hl 1 rfl) ?_
      refine lv_iload_n hx hb dX5_putResistor_18 rfl (lv_at hl 2 rfl) ?_
      obtain ⟨hin, hf⟩ := zc_of hf
      obtain ⟨a19, ea19⟩ : ∃ y : Nat → Int32, y = upd m_h_resistors v1.toNatClampNeg v2 := ⟨_, rfl⟩
      have hf := zl_of hf a19 ea19
      refine va_iast hx hb hK hP hD hS 1 1 rfl rfl hin dX5_putResistor_19 (fun H locs hP hD hS => ?_)
      rw [← ea19] at hP hD
      have hP : va_P D vwCl [(h, .inr (5, [.int m_h_bits, .int m_h_unit, .int m_h_offset, .int m_h_lean, .int m_h_ref, .int m_h_top, .ref q_h_misses, .ref q_h_resistors])), (q_h_resistors, aI cy 16 a19)] H := hP
      have hD : va_D A [(h, .inr (5, [.int m_h_bits, .int m_h_unit, .int m_h_offset, .int m_h_lean, .int m_h_ref, .int m_h_top, .ref q_h_misses, .ref q_h_resistors])), (q_h_resistors, aI cy 16 a19)] := hD
      obtain rfl := Option.some.inj hf
      exact ret_v C hP hD hS dX5_putResistor_20
set_option maxRecDepth 100000 in
theorem c_X5_putResistor (l : Launch) (D : va_G) (cy : Nat → ClassId) (sz : Nat) (h q_h_misses q_h_resistors : Nat) (v1 : Int32) (v2 : Int32) (m_h_bits : Int32) (m_h_unit : Int32) (m_h_offset : Int32) (m_h_lean : Int32) (m_h_ref : Int32) (m_h_top : Int32) (m_h_resistors : Nat → Int32) {z : (Nat → Int32)} (hf : f_X5_putResistor v1 v2 m_h_resistors = some z) : Met l yX5_putResistor (.code yX5_putResistor cX5_putResistor 3 none :: tb) ({ frames := 0, cells := 0, slots := 0, locals := 0 } : Room) (kp D cy sz [.ref h, .int v1, .int v2] [(h, .inr (5, [.int m_h_bits, .int m_h_unit, .int m_h_offset, .int m_h_lean, .int m_h_ref, .int m_h_top, .ref q_h_misses, .ref q_h_resistors])), (q_h_resistors, aI cy 16 m_h_resistors)]) (kqv D cy [(h, .inr (5, [.int m_h_bits, .int m_h_unit, .int m_h_offset, .int m_h_lean, .int m_h_ref, .int m_h_top, .ref q_h_misses, .ref q_h_resistors])), (q_h_resistors, aI cy 16 z)] (va_A [(h, .inr (5, [.int m_h_bits, .int m_h_unit, .int m_h_offset, .int m_h_lean, .int m_h_ref, .int m_h_top, .ref q_h_misses, .ref q_h_resistors])), (q_h_resistors, aI cy 16 m_h_resistors)] sz)) 0 0 (va_A [(h, .inr (5, [.int m_h_bits, .int m_h_unit, .int m_h_offset, .int m_h_lean, .int m_h_ref, .int m_h_top, .ref q_h_misses, .ref q_h_resistors])), (q_h_resistors, aI cy 16 m_h_resistors)] sz) :=
  met_of (fun A => kqv D cy [(h, .inr (5, [.int m_h_bits, .int m_h_unit, .int m_h_offset, .int m_h_lean, .int m_h_ref, .int m_h_top, .ref q_h_misses, .ref q_h_resistors])), (q_h_resistors, aI cy 16 z)] A) (by decide +kernel) (Nat.le_of_ble_eq_true rfl) (fun p e s m below meth c A ls C hP hD hS hl => k_X5_putResistor C hf hP hD hS hl)
theorem hd_X5_putResistor : yX5_putResistor.cls ≠ "java/lang/invoke/MethodHandle" ∧ yX5_putResistor.cls ≠ "java/lang/invoke/VarHandle" ∧ (parseMethodDescriptor yX5_putResistor.desc).map (fun d => d.parameters.length) = some 2 := by decide +kernel
def f_X5_copy (m_h_misses : Nat → Int32) (m_h_resistors : Nat → Int32) (m_r1_bits : Int32) (m_r1_unit : Int32) (m_r1_offset : Int32) (m_r1_lean : Int32) (m_r1_ref : Int32) (m_r1_top : Int32) (m_r1_misses : Nat → Int32) (m_r1_resistors : Nat → Int32) : Option (Int32 × Int32 × Int32 × Int32 × Int32 × Int32 × (Nat → Int32) × (Nat → Int32)) :=
  zl (va_cpy m_r1_misses m_h_misses (0 : Int32).toNatClampNeg (0 : Int32).toNatClampNeg (9 : Int32).toNatClampNeg) fun a65 =>
  zl (va_cpy m_r1_resistors m_h_resistors (0 : Int32).toNatClampNeg (0 : Int32).toNatClampNeg (16 : Int32).toNatClampNeg) fun a80 =>
  some (m_r1_bits, m_r1_unit, m_r1_offset, m_r1_lean, m_r1_ref, m_r1_top, a65, a80)
set_option maxHeartbeats 4000000 in
set_option maxRecDepth 100000 in
theorem k_X5_copy {h q_h_misses q_h_resistors r1 q_r1_misses q_r1_resistors : Nat} {m_h_bits : Int32} {m_h_unit : Int32} {m_h_offset : Int32} {m_h_lean : Int32} {m_h_ref : Int32} {m_h_top : Int32} {m_h_misses : Nat → Int32} {m_h_resistors : Nat → Int32} {m_r1_bits : Int32} {m_r1_unit : Int32} {m_r1_offset : Int32} {m_r1_lean : Int32} {m_r1_ref : Int32} {m_r1_top : Int32} {m_r1_misses : Nat → Int32} {m_r1_resistors : Nat → Int32} {z : Int32 × Int32 × Int32 × Int32 × Int32 × Int32 × (Nat → Int32) × (Nat → Int32)} (hzn : narrow .boolean (.int m_r1_top) = .int m_r1_top) (hzt : fits .boolean (.int m_r1_top) = true) (C : cx p s m args meth c cX5_copy 2 none RX5 D cy A) (hf : f_X5_copy m_h_misses m_h_resistors m_r1_bits m_r1_unit m_r1_offset m_r1_lean m_r1_ref m_r1_top m_r1_misses m_r1_resistors = some z) (hP : va_P D vwCl [(h, .inr (5, [.int m_h_bits, .int m_h_unit, .int m_h_offset, .int m_h_lean, .int m_h_ref, .int m_h_top, .ref q_h_misses, .ref q_h_resistors])), (q_h_misses, aI cy 9 m_h_misses), (q_h_resistors, aI cy 16 m_h_resistors), (r1, .inr (5, [.int m_r1_bits, .int m_r1_unit, .int m_r1_offset, .int m_r1_lean, .int m_r1_ref, .int m_r1_top, .ref q_r1_misses, .ref q_r1_resistors])), (q_r1_misses, aI cy 9 m_r1_misses), (q_r1_resistors, aI cy 16 m_r1_resistors)] H) (hD : va_D A [(h, .inr (5, [.int m_h_bits, .int m_h_unit, .int m_h_offset, .int m_h_lean, .int m_h_ref, .int m_h_top, .ref q_h_misses, .ref q_h_resistors])), (q_h_misses, aI cy 9 m_h_misses), (q_h_resistors, aI cy 16 m_h_resistors), (r1, .inr (5, [.int m_r1_bits, .int m_r1_unit, .int m_r1_offset, .int m_r1_lean, .int m_r1_ref, .int m_r1_top, .ref q_r1_misses, .ref q_r1_resistors])), (q_r1_misses, aI cy 9 m_r1_misses), (q_r1_resistors, aI cy 16 m_r1_resistors)]) (hS : va_S A s.heap H locs) (hl : lv_has ls 2 [(0, .ref h), (1, .ref r1)]) : W p l e ({ frames := 1, cells := 0, slots := 0, locals := 60 } : Room) s m args below meth c H locs 0 0 (MQ below (kqv D cy [(h, .inr (5, [.int z.1, .int z.2.1, .int z.2.2.1, .int z.2.2.2.1, .int z.2.2.2.2.1, .int z.2.2.2.2.2.1, .ref q_h_misses, .ref q_h_resistors])), (q_h_misses, aI cy 9 z.2.2.2.2.2.2.1), (q_h_resistors, aI cy 16 z.2.2.2.2.2.2.2), (r1, .inr (5, [.int m_r1_bits, .int m_r1_unit, .int m_r1_offset, .int m_r1_lean, .int m_r1_ref, .int m_r1_top, .ref q_r1_misses, .ref q_r1_resistors])), (q_r1_misses, aI cy 9 m_r1_misses), (q_r1_resistors, aI cy 16 m_r1_resistors)] A) args s 0 0 A) (F0 m 0 ls []) := by
  obtain ⟨hx, hb, hr, hml, hown, hts, hlk, hK, hA, hN⟩ := id C
  unfold f_X5_copy at hf
  refine lv_aload_n hx hb dX5_copy_0 rfl (lv_at hl 1 rfl) ?_
  refine lv_ifnonnull (tgt := 5) hx hb dX5_copy_1 (by decide) ?_
  refine lv_aload_n hx hb dX5_copy_5 rfl (lv_at hl 0 rfl) ?_
  refine lv_aload_n hx hb dX5_copy_6 rfl (lv_at hl 1 rfl) ?_
  refine va_get (D := D) (ci := 5) (v := .int m_r1_bits) (C := RX5) (T := TX5) (N := 8) hx hb hts ui_X5 hown hK hP 3 rfl rfl 0 (by decide) (hts _ fl_X5_19) (fun _ h9 => h9) rfl dX5_copy_7 ?_
  refine va_put (D := D) (ci := 5) (v := .int m_r1_bits) (ty := .int) (C := RX5) (T := TX5) (N := 8) hx hb hts ui_X5 tyX5 tyX5_ok nmX5 hown hK hP hD hS 0 rfl rfl 0 (by decide) (hts _ fl_X5_19) (fun _ h9 => h9) rfl rfl rfl rfl (Nat.le_of_ble_eq_true rfl) dX5_copy_10 (fun H locs hP hD hS => ?_)
  have hP : va_P D vwCl [(h, .inr (5, [.int m_r1_bits, .int m_h_unit, .int m_h_offset, .int m_h_lean, .int m_h_ref, .int m_h_top, .ref q_h_misses, .ref q_h_resistors])), (q_h_misses, aI cy 9 m_h_misses), (q_h_resistors, aI cy 16 m_h_resistors), (r1, .inr (5, [.int m_r1_bits, .int m_r1_unit, .int m_r1_offset, .int m_r1_lean, .int m_r1_ref, .int m_r1_top, .ref q_r1_misses, .ref q_r1_resistors])), (q_r1_misses, aI cy 9 m_r1_misses), (q_r1_resistors, aI cy 16 m_r1_resistors)] H := hP
  have hD : va_D A [(h, .inr (5, [.int m_r1_bits, .int m_h_unit, .int m_h_offset, .int m_h_lean, .int m_h_ref, .int m_h_top, .ref q_h_misses, .ref q_h_resistors])), (q_h_misses, aI cy 9 m_h_misses), (q_h_resistors, aI cy 16 m_h_resistors), (r1, .inr (5, [.int m_r1_bits, .int m_r1_unit, .int m_r1_offset, .int m_r1_lean, .int m_r1_ref, .int m_r1_top, .ref q_r1_misses, .ref q_r1_resistors])), (q_r1_misses, aI cy 9 m_r1_misses), (q_r1_resistors, aI cy 16 m_r1_resistors)] := hD
  refine lv_aload_n hx hb dX5_copy_13 rfl (lv_at hl 0 rfl) ?_
  refine lv_aload_n hx hb dX5_copy_14 rfl (lv_at hl 1 rfl) ?_
  refine va_get (D := D) (ci := 5) (v := .int m_r1_unit) (C := RX5) (T := TX5) (N := 8) hx hb hts ui_X5 hown hK hP 3 rfl rfl 1 (by decide) (hts _ fl_X5_23) (fun _ h9 => h9) rfl dX5_copy_15 ?_
  refine va_put (D := D) (ci := 5) (v := .int m_r1_unit) (ty := .int) (C := RX5) (T := TX5) (N := 8) hx hb hts ui_X5 tyX5 tyX5_ok nmX5 hown hK hP hD hS 0 rfl rfl 1 (by decide) (hts _ fl_X5_23) (fun _ h9 => h9) rfl rfl rfl rfl (Nat.le_of_ble_eq_true rfl) dX5_copy_18 (fun H locs hP hD hS => ?_)
  have hP : va_P D vwCl [(h, .inr (5, [.int m_r1_bits, .int m_r1_unit, .int m_h_offset, .int m_h_lean, .int m_h_ref, .int m_h_top, .ref q_h_misses, .ref q_h_resistors])), (q_h_misses, aI cy 9 m_h_misses), (q_h_resistors, aI cy 16 m_h_resistors), (r1, .inr (5, [.int m_r1_bits, .int m_r1_unit, .int m_r1_offset, .int m_r1_lean, .int m_r1_ref, .int m_r1_top, .ref q_r1_misses, .ref q_r1_resistors])), (q_r1_misses, aI cy 9 m_r1_misses), (q_r1_resistors, aI cy 16 m_r1_resistors)] H := hP
  have hD : va_D A [(h, .inr (5, [.int m_r1_bits, .int m_r1_unit, .int m_h_offset, .int m_h_lean, .int m_h_ref, .int m_h_top, .ref q_h_misses, .ref q_h_resistors])), (q_h_misses, aI cy 9 m_h_misses), (q_h_resistors, aI cy 16 m_h_resistors), (r1, .inr (5, [.int m_r1_bits, .int m_r1_unit, .int m_r1_offset, .int m_r1_lean, .int m_r1_ref, .int m_r1_top, .ref q_r1_misses, .ref q_r1_resistors])), (q_r1_misses, aI cy 9 m_r1_misses), (q_r1_resistors, aI cy 16 m_r1_resistors)] := hD
  refine lv_aload_n hx hb dX5_copy_21 rfl (lv_at hl 0 rfl) ?_
  refine lv_aload_n hx hb dX5_copy_22 rfl (lv_at hl 1 rfl) ?_
  refine va_get (D := D) (ci := 5) (v := .int m_r1_offset) (C := RX5) (T := TX5) (N := 8) hx hb hts ui_X5 hown hK hP 3 rfl rfl 2 (by decide) (hts _ fl_X5_26) (fun _ h9 => h9) rfl dX5_copy_23 ?_
  refine va_put (D := D) (ci := 5) (v := .int m_r1_offset) (ty := .int) (C := RX5) (T := TX5) (N := 8) hx hb hts ui_X5 tyX5 tyX5_ok nmX5 hown hK hP hD hS 0 rfl rfl 2 (by decide) (hts _ fl_X5_26) (fun _ h9 => h9) rfl rfl rfl rfl (Nat.le_of_ble_eq_true rfl) dX5_copy_26 (fun H locs hP hD hS => ?_)
  have hP : va_P D vwCl [(h, .inr (5, [.int m_r1_bits, .int m_r1_unit, .int m_r1_offset, .int m_h_lean, .int m_h_ref, .int m_h_top, .ref q_h_misses, .ref q_h_resistors])), (q_h_misses, aI cy 9 m_h_misses), (q_h_resistors, aI cy 16 m_h_resistors), (r1, .inr (5, [.int m_r1_bits, .int m_r1_unit, .int m_r1_offset, .int m_r1_lean, .int m_r1_ref, .int m_r1_top, .ref q_r1_misses, .ref q_r1_resistors])), (q_r1_misses, aI cy 9 m_r1_misses), (q_r1_resistors, aI cy 16 m_r1_resistors)] H := hP
  have hD : va_D A [(h, .inr (5, [.int m_r1_bits, .int m_r1_unit, .int m_r1_offset, .int m_h_lean, .int m_h_ref, .int m_h_top, .ref q_h_misses, .ref q_h_resistors])), (q_h_misses, aI cy 9 m_h_misses), (q_h_resistors, aI cy 16 m_h_resistors), (r1, .inr (5, [.int m_r1_bits, .int m_r1_unit, .int m_r1_offset, .int m_r1_lean, .int m_r1_ref, .int m_r1_top, .ref q_r1_misses, .ref q_r1_resistors])), (q_r1_misses, aI cy 9 m_r1_misses), (q_r1_resistors, aI cy 16 m_r1_resistors)] := hD
  refine lv_aload_n hx hb dX5_copy_29 rfl (lv_at hl 0 rfl) ?_
  refine lv_aload_n hx hb dX5_copy_30 rfl (lv_at hl 1 rfl) ?_
  refine va_get (D := D) (ci := 5) (v := .int m_r1_lean) (C := RX5) (T := TX5) (N := 8) hx hb hts ui_X5 hown hK hP 3 rfl rfl 3 (by decide) (hts _ fl_X5_29) (fun _ h9 => h9) rfl dX5_copy_31 ?_
  refine va_put (D := D) (ci := 5) (v := .int m_r1_lean) (ty := .int) (C := RX5) (T := TX5) (N := 8) hx hb hts ui_X5 tyX5 tyX5_ok nmX5 hown hK hP hD hS 0 rfl rfl 3 (by decide) (hts _ fl_X5_29) (fun _ h9 => h9) rfl rfl rfl rfl (Nat.le_of_ble_eq_true rfl) dX5_copy_34 (fun H locs hP hD hS => ?_)
  have hP : va_P D vwCl [(h, .inr (5, [.int m_r1_bits, .int m_r1_unit, .int m_r1_offset, .int m_r1_lean, .int m_h_ref, .int m_h_top, .ref q_h_misses, .ref q_h_resistors])), (q_h_misses, aI cy 9 m_h_misses), (q_h_resistors, aI cy 16 m_h_resistors), (r1, .inr (5, [.int m_r1_bits, .int m_r1_unit, .int m_r1_offset, .int m_r1_lean, .int m_r1_ref, .int m_r1_top, .ref q_r1_misses, .ref q_r1_resistors])), (q_r1_misses, aI cy 9 m_r1_misses), (q_r1_resistors, aI cy 16 m_r1_resistors)] H := hP
  have hD : va_D A [(h, .inr (5, [.int m_r1_bits, .int m_r1_unit, .int m_r1_offset, .int m_r1_lean, .int m_h_ref, .int m_h_top, .ref q_h_misses, .ref q_h_resistors])), (q_h_misses, aI cy 9 m_h_misses), (q_h_resistors, aI cy 16 m_h_resistors), (r1, .inr (5, [.int m_r1_bits, .int m_r1_unit, .int m_r1_offset, .int m_r1_lean, .int m_r1_ref, .int m_r1_top, .ref q_r1_misses, .ref q_r1_resistors])), (q_r1_misses, aI cy 9 m_r1_misses), (q_r1_resistors, aI cy 16 m_r1_resistors)] := hD
  refine lv_aload_n hx hb dX5_copy_37 rfl (lv_at hl 0 rfl) ?_
  refine lv_aload_n hx hb dX5_copy_38 rfl (lv_at hl 1 rfl) ?_
  refine va_get (D := D) (ci := 5) (v := .int m_r1_ref) (C := RX5) (T := TX5) (N := 8) hx hb hts ui_X5 hown hK hP 3 rfl rfl 4 (by decide) (hts _ fl_X5_32) (fun _ h9 => h9) rfl dX5_copy_39 ?_
  refine va_put (D := D) (ci := 5) (v := .int m_r1_ref) (ty := .int) (C := RX5) (T := TX5) (N := 8) hx hb hts ui_X5 tyX5 tyX5_ok nmX5 hown hK hP hD hS 0 rfl rfl 4 (by decide) (hts _ fl_X5_32) (fun _ h9 => h9) rfl rfl rfl rfl (Nat.le_of_ble_eq_true rfl) dX5_copy_42 (fun H locs hP hD hS => ?_)
  have hP : va_P D vwCl [(h, .inr (5, [.int m_r1_bits, .int m_r1_unit, .int m_r1_offset, .int m_r1_lean, .int m_r1_ref, .int m_h_top, .ref q_h_misses, .ref q_h_resistors])), (q_h_misses, aI cy 9 m_h_misses), (q_h_resistors, aI cy 16 m_h_resistors), (r1, .inr (5, [.int m_r1_bits, .int m_r1_unit, .int m_r1_offset, .int m_r1_lean, .int m_r1_ref, .int m_r1_top, .ref q_r1_misses, .ref q_r1_resistors])), (q_r1_misses, aI cy 9 m_r1_misses), (q_r1_resistors, aI cy 16 m_r1_resistors)] H := hP
  have hD : va_D A [(h, .inr (5, [.int m_r1_bits, .int m_r1_unit, .int m_r1_offset, .int m_r1_lean, .int m_r1_ref, .int m_h_top, .ref q_h_misses, .ref q_h_resistors])), (q_h_misses, aI cy 9 m_h_misses), (q_h_resistors, aI cy 16 m_h_resistors), (r1, .inr (5, [.int m_r1_bits, .int m_r1_unit, .int m_r1_offset, .int m_r1_lean, .int m_r1_ref, .int m_r1_top, .ref q_r1_misses, .ref q_r1_resistors])), (q_r1_misses, aI cy 9 m_r1_misses), (q_r1_resistors, aI cy 16 m_r1_resistors)] := hD
  refine lv_aload_n hx hb dX5_copy_45 rfl (lv_at hl 0 rfl) ?_
  refine lv_aload_n hx hb dX5_copy_46 rfl (lv_at hl 1 rfl) ?_
  refine va_get (D := D) (ci := 5) (v := .int m_r1_top) (C := RX5) (T := TX5) (N := 8) hx hb hts ui_X5 hown hK hP 3 rfl rfl 5 (by decide) (hts _ fl_X5_35) (fun _ h9 => h9) rfl dX5_copy_47 ?_
  refine va_put (D := D) (ci := 5) (v := .int m_r1_top) (ty := .boolean) (C := RX5) (T := TX5) (N := 8) hx hb hts ui_X5 tyX5 tyX5_ok nmX5 hown hK hP hD hS 0 rfl rfl 5 (by decide) (hts _ fl_X5_35) (fun _ h9 => h9) rfl rfl hzn hzt (Nat.le_of_ble_eq_true rfl) dX5_copy_50 (fun H locs hP hD hS => ?_)
  have hP : va_P D vwCl [(h, .inr (5, [.int m_r1_bits, .int m_r1_unit, .int m_r1_offset, .int m_r1_lean, .int m_r1_ref, .int m_r1_top, .ref q_h_misses, .ref q_h_resistors])), (q_h_misses, aI cy 9 m_h_misses), (q_h_resistors, aI cy 16 m_h_resistors), (r1, .inr (5, [.int m_r1_bits, .int m_r1_unit, .int m_r1_offset, .int m_r1_lean, .int m_r1_ref, .int m_r1_top, .ref q_r1_misses, .ref q_r1_resistors])), (q_r1_misses, aI cy 9 m_r1_misses), (q_r1_resistors, aI cy 16 m_r1_resistors)] H := hP
  have hD : va_D A [(h, .inr (5, [.int m_r1_bits, .int m_r1_unit, .int m_r1_offset, .int m_r1_lean, .int m_r1_ref, .int m_r1_top, .ref q_h_misses, .ref q_h_resistors])), (q_h_misses, aI cy 9 m_h_misses), (q_h_resistors, aI cy 16 m_h_resistors), (r1, .inr (5, [.int m_r1_bits, .int m_r1_unit, .int m_r1_offset, .int m_r1_lean, .int m_r1_ref, .int m_r1_top, .ref q_r1_misses, .ref q_r1_resistors])), (q_r1_misses, aI cy 9 m_r1_misses), (q_r1_resistors, aI cy 16 m_r1_resistors)] := hD
  refine lv_aload_n hx hb dX5_copy_53 rfl (lv_at hl 1 rfl) ?_
  refine va_get (D := D) (ci := 5) (v := .ref q_r1_misses) (C := RX5) (T := TX5) (N := 8) hx hb hts ui_X5 hown hK hP 3 rfl rfl 6 (by decide) (hts _ fl_X5_9) (fun _ h9 => h9) rfl dX5_copy_54 ?_
  refine lv_iconst (v := 0) hx hb dX5_copy_57 (by decide) ?_
  refine lv_aload_n hx hb dX5_copy_58 rfl (lv_at hl 0 rfl) ?_
  refine va_get (D := D) (ci := 5) (v := .ref q_h_misses) (C := RX5) (T := TX5) (N := 8) hx hb hts ui_X5 hown hK hP 0 rfl rfl 6 (by decide) (hts _ fl_X5_9) (fun _ h9 => h9) rfl dX5_copy_59 ?_
  refine lv_iconst (v := 0) hx hb dX5_copy_62 (by decide) ?_
  refine lv_bipush (v := 9) hx hb dX5_copy_63 (by decide) ?_
  obtain ⟨a65, ea65⟩ : ∃ y : Nat → Int32, y = va_cpy m_r1_misses m_h_misses (0 : Int32).toNatClampNeg (0 : Int32).toNatClampNeg (9 : Int32).toNatClampNeg := ⟨_, rfl⟩
  have hf := zl_of hf a65 ea65
  refine va_copyi hx hb (hml.trans hl.1.symm) hown (hts _ ml_X5_45) (hts _ nt_arraycopy) (hts _ st_JS_arraycopy) (hts _ ii_J10) hK hP hD hS 4 1 1 1 rfl rfl rfl rfl rfl (by decide) (by decide) (by decide) (by decide) (by decide) (fun _ _ => rfl) (Nat.le_of_ble_eq_true rfl) (by decide) dX5_copy_65 (fun H locs hP hD hS => ?_)
  rw [← ea65] at hP hD
  have hP : va_P D vwCl [(h, .inr (5, [.int m_r1_bits, .int m_r1_unit, .int m_r1_offset, .int m_r1_lean, .int m_r1_ref, .int m_r1_top, .ref q_h_misses, .ref q_h_resistors])), (q_h_misses, aI cy 9 a65), (q_h_resistors, aI cy 16 m_h_resistors), (r1, .inr (5, [.int m_r1_bits, .int m_r1_unit, .int m_r1_offset, .int m_r1_lean, .int m_r1_ref, .int m_r1_top, .ref q_r1_misses, .ref q_r1_resistors])), (q_r1_misses, aI cy 9 m_r1_misses), (q_r1_resistors, aI cy 16 m_r1_resistors)] H := hP
  have hD : va_D A [(h, .inr (5, [.int m_r1_bits, .int m_r1_unit, .int m_r1_offset, .int m_r1_lean, .int m_r1_ref, .int m_r1_top, .ref q_h_misses, .ref q_h_resistors])), (q_h_misses, aI cy 9 a65), (q_h_resistors, aI cy 16 m_h_resistors), (r1, .inr (5, [.int m_r1_bits, .int m_r1_unit, .int m_r1_offset, .int m_r1_lean, .int m_r1_ref, .int m_r1_top, .ref q_r1_misses, .ref q_r1_resistors])), (q_r1_misses, aI cy 9 m_r1_misses), (q_r1_resistors, aI cy 16 m_r1_resistors)] := hD
  refine lv_aload_n hx hb dX5_copy_68 rfl (lv_at hl 1 rfl) ?_
  refine va_get (D := D) (ci := 5) (v := .ref q_r1_resistors) (C := RX5) (T := TX5) (N := 8) hx hb hts ui_X5 hown hK hP 3 rfl rfl 7 (by decide) (hts _ fl_X5_13) (fun _ h9 => h9) rfl dX5_copy_69 ?_
  refine lv_iconst (v := 0) hx hb dX5_copy_72 (by decide) ?_
  refine lv_aload_n hx hb dX5_copy_73 rfl (lv_at hl 0 rfl) ?_
  refine va_get (D := D) (ci := 5) (v := .ref q_h_resistors) (C := RX5) (T := TX5) (N := 8) hx hb hts ui_X5 hown hK hP 0 rfl rfl 7 (by decide) (hts _ fl_X5_13) (fun _ h9 => h9) rfl dX5_copy_74 ?_
  refine lv_iconst (v := 0) hx hb dX5_copy_77 (by decide) ?_
  refine lv_bipush (v := 16) hx hb dX5_copy_78 (by decide) ?_
  obtain ⟨a80, ea80⟩ : ∃ y : Nat → Int32, y = va_cpy m_r1_resistors m_h_resistors (0 : Int32).toNatClampNeg (0 : Int32).toNatClampNeg (16 : Int32).toNatClampNeg := ⟨_, rfl⟩
  have hf := zl_of hf a80 ea80
  refine va_copyi hx hb (hml.trans hl.1.symm) hown (hts _ ml_X5_45) (hts _ nt_arraycopy) (hts _ st_JS_arraycopy) (hts _ ii_J10) hK hP hD hS 5 2 1 1 rfl rfl rfl rfl rfl (by decide) (by decide) (by decide) (by decide) (by decide) (fun _ _ => rfl) (Nat.le_of_ble_eq_true rfl) (by decide) dX5_copy_80 (fun H locs hP hD hS => ?_)
  rw [← ea80] at hP hD
  have hP : va_P D vwCl [(h, .inr (5, [.int m_r1_bits, .int m_r1_unit, .int m_r1_offset, .int m_r1_lean, .int m_r1_ref, .int m_r1_top, .ref q_h_misses, .ref q_h_resistors])), (q_h_misses, aI cy 9 a65), (q_h_resistors, aI cy 16 a80), (r1, .inr (5, [.int m_r1_bits, .int m_r1_unit, .int m_r1_offset, .int m_r1_lean, .int m_r1_ref, .int m_r1_top, .ref q_r1_misses, .ref q_r1_resistors])), (q_r1_misses, aI cy 9 m_r1_misses), (q_r1_resistors, aI cy 16 m_r1_resistors)] H := hP
  have hD : va_D A [(h, .inr (5, [.int m_r1_bits, .int m_r1_unit, .int m_r1_offset, .int m_r1_lean, .int m_r1_ref, .int m_r1_top, .ref q_h_misses, .ref q_h_resistors])), (q_h_misses, aI cy 9 a65), (q_h_resistors, aI cy 16 a80), (r1, .inr (5, [.int m_r1_bits, .int m_r1_unit, .int m_r1_offset, .int m_r1_lean, .int m_r1_ref, .int m_r1_top, .ref q_r1_misses, .ref q_r1_resistors])), (q_r1_misses, aI cy 9 m_r1_misses), (q_r1_resistors, aI cy 16 m_r1_resistors)] := hD
  obtain rfl := Option.some.inj hf
  exact ret_v C hP hD hS dX5_copy_83
set_option maxRecDepth 100000 in
theorem c_X5_copy (l : Launch) (D : va_G) (cy : Nat → ClassId) (sz : Nat) (h q_h_misses q_h_resistors r1 q_r1_misses q_r1_resistors : Nat) (m_h_bits : Int32) (m_h_unit : Int32) (m_h_offset : Int32) (m_h_lean : Int32) (m_h_ref : Int32) (m_h_top : Int32) (m_h_misses : Nat → Int32) (m_h_resistors : Nat → Int32) (m_r1_bits : Int32) (m_r1_unit : Int32) (m_r1_offset : Int32) (m_r1_lean : Int32) (m_r1_ref : Int32) (m_r1_top : Int32) (m_r1_misses : Nat → Int32) (m_r1_resistors : Nat → Int32) (hzn : narrow .boolean (.int m_r1_top) = .int m_r1_top) (hzt : fits .boolean (.int m_r1_top) = true) {z : Int32 × Int32 × Int32 × Int32 × Int32 × Int32 × (Nat → Int32) × (Nat → Int32)} (hf : f_X5_copy m_h_misses m_h_resistors m_r1_bits m_r1_unit m_r1_offset m_r1_lean m_r1_ref m_r1_top m_r1_misses m_r1_resistors = some z) : Met l yX5_copy (.code yX5_copy cX5_copy 2 none :: tb) ({ frames := 1, cells := 0, slots := 0, locals := 60 } : Room) (kp D cy sz [.ref h, .ref r1] [(h, .inr (5, [.int m_h_bits, .int m_h_unit, .int m_h_offset, .int m_h_lean, .int m_h_ref, .int m_h_top, .ref q_h_misses, .ref q_h_resistors])), (q_h_misses, aI cy 9 m_h_misses), (q_h_resistors, aI cy 16 m_h_resistors), (r1, .inr (5, [.int m_r1_bits, .int m_r1_unit, .int m_r1_offset, .int m_r1_lean, .int m_r1_ref, .int m_r1_top, .ref q_r1_misses, .ref q_r1_resistors])), (q_r1_misses, aI cy 9 m_r1_misses), (q_r1_resistors, aI cy 16 m_r1_resistors)]) (kqv D cy [(h, .inr (5, [.int z.1, .int z.2.1, .int z.2.2.1, .int z.2.2.2.1, .int z.2.2.2.2.1, .int z.2.2.2.2.2.1, .ref q_h_misses, .ref q_h_resistors])), (q_h_misses, aI cy 9 z.2.2.2.2.2.2.1), (q_h_resistors, aI cy 16 z.2.2.2.2.2.2.2), (r1, .inr (5, [.int m_r1_bits, .int m_r1_unit, .int m_r1_offset, .int m_r1_lean, .int m_r1_ref, .int m_r1_top, .ref q_r1_misses, .ref q_r1_resistors])), (q_r1_misses, aI cy 9 m_r1_misses), (q_r1_resistors, aI cy 16 m_r1_resistors)] (va_A [(h, .inr (5, [.int m_h_bits, .int m_h_unit, .int m_h_offset, .int m_h_lean, .int m_h_ref, .int m_h_top, .ref q_h_misses, .ref q_h_resistors])), (q_h_misses, aI cy 9 m_h_misses), (q_h_resistors, aI cy 16 m_h_resistors), (r1, .inr (5, [.int m_r1_bits, .int m_r1_unit, .int m_r1_offset, .int m_r1_lean, .int m_r1_ref, .int m_r1_top, .ref q_r1_misses, .ref q_r1_resistors])), (q_r1_misses, aI cy 9 m_r1_misses), (q_r1_resistors, aI cy 16 m_r1_resistors)] sz)) 0 0 (va_A [(h, .inr (5, [.int m_h_bits, .int m_h_unit, .int m_h_offset, .int m_h_lean, .int m_h_ref, .int m_h_top, .ref q_h_misses, .ref q_h_resistors])), (q_h_misses, aI cy 9 m_h_misses), (q_h_resistors, aI cy 16 m_h_resistors), (r1, .inr (5, [.int m_r1_bits, .int m_r1_unit, .int m_r1_offset, .int m_r1_lean, .int m_r1_ref, .int m_r1_top, .ref q_r1_misses, .ref q_r1_resistors])), (q_r1_misses, aI cy 9 m_r1_misses), (q_r1_resistors, aI cy 16 m_r1_resistors)] sz) :=
  met_of (fun A => kqv D cy [(h, .inr (5, [.int z.1, .int z.2.1, .int z.2.2.1, .int z.2.2.2.1, .int z.2.2.2.2.1, .int z.2.2.2.2.2.1, .ref q_h_misses, .ref q_h_resistors])), (q_h_misses, aI cy 9 z.2.2.2.2.2.2.1), (q_h_resistors, aI cy 16 z.2.2.2.2.2.2.2), (r1, .inr (5, [.int m_r1_bits, .int m_r1_unit, .int m_r1_offset, .int m_r1_lean, .int m_r1_ref, .int m_r1_top, .ref q_r1_misses, .ref q_r1_resistors])), (q_r1_misses, aI cy 9 m_r1_misses), (q_r1_resistors, aI cy 16 m_r1_resistors)] A) (by decide +kernel) (Nat.le_of_ble_eq_true rfl) (fun p e s m below meth c A ls C hP hD hS hl => k_X5_copy hzn hzt C hf hP hD hS hl)
theorem hd_X5_copy : yX5_copy.cls ≠ "java/lang/invoke/MethodHandle" ∧ yX5_copy.cls ≠ "java/lang/invoke/VarHandle" ∧ (parseMethodDescriptor yX5_copy.desc).map (fun d => d.parameters.length) = some 1 := by decide +kernel
