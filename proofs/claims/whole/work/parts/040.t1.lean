variable {p : Program} {l : Launch} {e : Env} {s : State} {m : MethodId} {args : Array Value} {below : List Frame} {meth : Method} {c : Code} {D : va_G} {cy : Nat → ClassId} {A : Nat → Prop} {H : Heap} {locs : List Loc} {ls : Array Slot} {Q : State → Prop}
def f_J9_max_7cf53 (v0 : Int32) (v1 : Int32) : Option (Int32) :=
  if v0 < v1 then
    some v1
  else
    some v0
set_option maxHeartbeats 4000000 in
set_option maxRecDepth 100000 in
theorem k_J9_max_7cf53 {v0 : Int32} {v1 : Int32} {z : Int32} (C : cx p s m args meth c cJ9_max_7cf53 2 (some .int) RJ9 D cy A) (hf : f_J9_max_7cf53 v0 v1 = some z) (hP : va_P D vwCl [] H) (hD : va_D A []) (hS : va_S A s.heap H locs) (hl : lv_has ls 2 [(0, .int v0), (1, .int v1)]) : W p l e ({ frames := 0, cells := 0, slots := 0, locals := 0 } : Room) s m args below meth c H locs 0 0 (MQ below (kqi D cy [] z A) args s 0 0 A) (F0 m 0 ls []) := by
  obtain ⟨hx, hb, hr, hml, hown, hts, hlk, hK, hA, hN⟩ := id C
  unfold f_J9_max_7cf53 at hf
  refine lv_iload_n hx hb dJ9_max_7cf53_0 rfl (lv_at hl 0 rfl) ?_
  refine lv_iload_n hx hb dJ9_max_7cf53_1 rfl (lv_at hl 1 rfl) ?_
  refine lv_icmp_lt (tgt := 9) hx hb dJ9_max_7cf53_2 (by decide) (fun c2 => ?_) (fun c2 => ?_)
  · have hf := zt c2 hf
    refine lv_iload_n hx hb dJ9_max_7cf53_9 rfl (lv_at hl 1 rfl) ?_
    obtain rfl := Option.some.inj hf
    exact ret_i C hP hD hS dJ9_max_7cf53_10
  · have hf := zf c2 hf
    refine lv_iload_n hx hb dJ9_max_7cf53_5 rfl (lv_at hl 0 rfl) ?_
    refine lv_goto (tgt := 10) hx hb dJ9_max_7cf53_6 (by decide) ?_
    obtain rfl := Option.some.inj hf
    exact ret_i C hP hD hS dJ9_max_7cf53_10
set_option maxRecDepth 100000 in
theorem c_J9_max_7cf53 (l : Launch) (D : va_G) (cy : Nat → ClassId) (sz : Nat) (v0 : Int32) (v1 : Int32) {z : Int32} (hf : f_J9_max_7cf53 v0 v1 = some z) : Met l yJ9_max_7cf53 (.code yJ9_max_7cf53 cJ9_max_7cf53 2 (some .int) :: tb) ({ frames := 0, cells := 0, slots := 0, locals := 0 } : Room) (kp D cy sz [.int v0, .int v1] []) (kqi D cy [] z (va_A [] sz)) 0 0 (va_A [] sz) :=
  met_of (fun A => kqi D cy [] z A) (by decide +kernel) (Nat.le_of_ble_eq_true rfl) (fun p e s m below meth c A ls C hP hD hS hl => k_J9_max_7cf53 C hf hP hD hS hl)
theorem hd_J9_max_7cf53 : yJ9_max_7cf53.cls ≠ "java/lang/invoke/MethodHandle" ∧ yJ9_max_7cf53.cls ≠ "java/lang/invoke/VarHandle" ∧ (parseMethodDescriptor yJ9_max_7cf53.desc).map (fun d => d.parameters.length) = some 2 := by decide +kernel
def f_J9_min_7cf53 (v0 : Int32) (v1 : Int32) : Option (Int32) :=
  if v1 < v0 then
    some v1
  else
    some v0
set_option maxHeartbeats 4000000 in
set_option maxRecDepth 100000 in
theorem k_J9_min_7cf53 {v0 : Int32} {v1 : Int32} {z : Int32} (C : cx p s m args meth c cJ9_min_7cf53 2 (some .int) RJ9 D cy A) (hf : f_J9_min_7cf53 v0 v1 = some z) (hP : va_P D vwCl [] H) (hD : va_D A []) (hS : va_S A s.heap H locs) (hl : lv_has ls 2 [(0, .int v0), (1, .int v1)]) : W p l e ({ frames := 0, cells := 0, slots := 0, locals := 0 } : Room) s m args below meth c H locs 0 0 (MQ below (kqi D cy [] z A) args s 0 0 A) (F0 m 0 ls []) := by
  obtain ⟨hx, hb, hr, hml, hown, hts, hlk, hK, hA, hN⟩ := id C
  unfold f_J9_min_7cf53 at hf
  refine lv_iload_n hx hb dJ9_min_7cf53_0 rfl (lv_at hl 0 rfl) ?_
  refine lv_iload_n hx hb dJ9_min_7cf53_1 rfl (lv_at hl 1 rfl) ?_
  refine lv_icmp_gt (tgt := 9) hx hb dJ9_min_7cf53_2 (by decide) (fun c2 => ?_) (fun c2 => ?_)
  · have hf := zt c2 hf
    refine lv_iload_n hx hb dJ9_min_7cf53_9 rfl (lv_at hl 1 rfl) ?_
    obtain rfl := Option.some.inj hf
    exact ret_i C hP hD hS dJ9_min_7cf53_10
  · have hf := zf c2 hf
    refine lv_iload_n hx hb dJ9_min_7cf53_5 rfl (lv_at hl 0 rfl) ?_
    refine lv_goto (tgt := 10) hx hb dJ9_min_7cf53_6 (by decide) ?_
    obtain rfl := Option.some.inj hf
    exact ret_i C hP hD hS dJ9_min_7cf53_10
set_option maxRecDepth 100000 in
theorem c_J9_min_7cf53 (l : Launch) (D : va_G) (cy : Nat → ClassId) (sz : Nat) (v0 : Int32) (v1 : Int32) {z : Int32} (hf : f_J9_min_7cf53 v0 v1 = some z) : Met l yJ9_min_7cf53 (.code yJ9_min_7cf53 cJ9_min_7cf53 2 (some .int) :: tb) ({ frames := 0, cells := 0, slots := 0, locals := 0 } : Room) (kp D cy sz [.int v0, .int v1] []) (kqi D cy [] z (va_A [] sz)) 0 0 (va_A [] sz) :=
  met_of (fun A => kqi D cy [] z A) (by decide +kernel) (Nat.le_of_ble_eq_true rfl) (fun p e s m below meth c A ls C hP hD hS hl => k_J9_min_7cf53 C hf hP hD hS hl)
theorem hd_J9_min_7cf53 : yJ9_min_7cf53.cls ≠ "java/lang/invoke/MethodHandle" ∧ yJ9_min_7cf53.cls ≠ "java/lang/invoke/VarHandle" ∧ (parseMethodDescriptor yJ9_min_7cf53.desc).map (fun d => d.parameters.length) = some 2 := by decide +kernel
def f_J9_abs_0f7a4 (v0 : Int32) : Option (Int32) :=
  if 0 ≤ v0 then
    some v0
  else
    some (-v0)
set_option maxHeartbeats 4000000 in
set_option maxRecDepth 100000 in
theorem k_J9_abs_0f7a4 {v0 : Int32} {z : Int32} (C : cx p s m args meth c cJ9_abs_0f7a4 1 (some .int) RJ9 D cy A) (hf : f_J9_abs_0f7a4 v0 = some z) (hP : va_P D vwCl [] H) (hD : va_D A []) (hS : va_S A s.heap H locs) (hl : lv_has ls 1 [(0, .int v0)]) : W p l e ({ frames := 0, cells := 0, slots := 0, locals := 0 } : Room) s m args below meth c H locs 0 0 (MQ below (kqi D cy [] z A) args s 0 0 A) (F0 m 0 ls []) := by
  obtain ⟨hx, hb, hr, hml, hown, hts, hlk, hK, hA, hN⟩ := id C
  unfold f_J9_abs_0f7a4 at hf
  refine lv_iload_n hx hb dJ9_abs_0f7a4_0 rfl (lv_at hl 0 rfl) ?_
  refine lv_if_ge (tgt := 9) hx hb dJ9_abs_0f7a4_1 (by decide) (fun c1 => ?_) (fun c1 => ?_)
  · have hf := zt c1 hf
    refine lv_iload_n hx hb dJ9_abs_0f7a4_9 rfl (lv_at hl 0 rfl) ?_
    obtain rfl := Option.some.inj hf
    exact ret_i C hP hD hS dJ9_abs_0f7a4_10
  · have hf := zf c1 hf
    refine lv_iload_n hx hb dJ9_abs_0f7a4_4 rfl (lv_at hl 0 rfl) ?_
    refine lv_ineg hx hb dJ9_abs_0f7a4_5 ?_
    refine lv_goto (tgt := 10) hx hb dJ9_abs_0f7a4_6 (by decide) ?_
    obtain rfl := Option.some.inj hf
    exact ret_i C hP hD hS dJ9_abs_0f7a4_10
set_option maxRecDepth 100000 in
theorem c_J9_abs_0f7a4 (l : Launch) (D : va_G) (cy : Nat → ClassId) (sz : Nat) (v0 : Int32) {z : Int32} (hf : f_J9_abs_0f7a4 v0 = some z) : Met l yJ9_abs_0f7a4 (.code yJ9_abs_0f7a4 cJ9_abs_0f7a4 1 (some .int) :: tb) ({ frames := 0, cells := 0, slots := 0, locals := 0 } : Room) (kp D cy sz [.int v0] []) (kqi D cy [] z (va_A [] sz)) 0 0 (va_A [] sz) :=
  met_of (fun A => kqi D cy [] z A) (by decide +kernel) (Nat.le_of_ble_eq_true rfl) (fun p e s m below meth c A ls C hP hD hS hl => k_J9_abs_0f7a4 C hf hP hD hS hl)
theorem hd_J9_abs_0f7a4 : yJ9_abs_0f7a4.cls ≠ "java/lang/invoke/MethodHandle" ∧ yJ9_abs_0f7a4.cls ≠ "java/lang/invoke/VarHandle" ∧ (parseMethodDescriptor yJ9_abs_0f7a4.desc).map (fun d => d.parameters.length) = some 1 := by decide +kernel
def f_J9_abs_067f4 (v0 : Int64) : Option (Int64) :=
  if 0 ≤ (lg_cmp v0 (0 : Int64)) then
    some v0
  else
    some (-v0)
set_option maxHeartbeats 4000000 in
set_option maxRecDepth 100000 in
theorem k_J9_abs_067f4 {v0 : Int64} {z : Int64} (C : cx p s m args meth c cJ9_abs_067f4 2 (some .long) RJ9 D cy A) (hf : f_J9_abs_067f4 v0 = some z) (hP : va_P D vwCl [] H) (hD : va_D A []) (hS : va_S A s.heap H locs) (hl : lv_has ls 2 [(0, .long v0)]) : W p l e ({ frames := 0, cells := 0, slots := 0, locals := 0 } : Room) s m args below meth c H locs 0 0 (MQ below (kql D cy [] z A) args s 0 0 A) (F0 m 0 ls []) := by
  obtain ⟨hx, hb, hr, hml, hown, hts, hlk, hK, hA, hN⟩ := id C
  unfold f_J9_abs_067f4 at hf
  refine lv_lload_n hx hb dJ9_abs_067f4_0 rfl (lv_at hl 0 rfl) ?_
  refine lv_lconst (v := 0) hx hb dJ9_abs_067f4_1 (by decide) ?_
  refine W.lcmp hx hb dJ9_abs_067f4_2 ?_
  refine lv_if_ge (tgt := 11) hx hb dJ9_abs_067f4_3 (by decide) (fun c3 => ?_) (fun c3 => ?_)
  · have hf := zt c3 hf
    refine lv_lload_n hx hb dJ9_abs_067f4_11 rfl (lv_at hl 0 rfl) ?_
    obtain rfl := Option.some.inj hf
    exact ret_l C hP hD hS dJ9_abs_067f4_12
  · have hf := zf c3 hf
    refine lv_lload_n hx hb dJ9_abs_067f4_6 rfl (lv_at hl 0 rfl) ?_
    refine lv_lneg hx hb dJ9_abs_067f4_7 ?_
    refine lv_goto (tgt := 12) hx hb dJ9_abs_067f4_8 (by decide) ?_
    obtain rfl := Option.some.inj hf
    exact ret_l C hP hD hS dJ9_abs_067f4_12
set_option maxRecDepth 100000 in
theorem c_J9_abs_067f4 (l : Launch) (D : va_G) (cy : Nat → ClassId) (sz : Nat) (v0 : Int64) {z : Int64} (hf : f_J9_abs_067f4 v0 = some z) : Met l yJ9_abs_067f4 (.code yJ9_abs_067f4 cJ9_abs_067f4 2 (some .long) :: tb) ({ frames := 0, cells := 0, slots := 0, locals := 0 } : Room) (kp D cy sz [.long v0] []) (kql D cy [] z (va_A [] sz)) 0 0 (va_A [] sz) :=
  met_of (fun A => kql D cy [] z A) (by decide +kernel) (Nat.le_of_ble_eq_true rfl) (fun p e s m below meth c A ls C hP hD hS hl => k_J9_abs_067f4 C hf hP hD hS hl)
theorem hd_J9_abs_067f4 : yJ9_abs_067f4.cls ≠ "java/lang/invoke/MethodHandle" ∧ yJ9_abs_067f4.cls ≠ "java/lang/invoke/VarHandle" ∧ (parseMethodDescriptor yJ9_abs_067f4.desc).map (fun d => d.parameters.length) = some 1 := by decide +kernel
def f_J9_floorDiv_7cf53 (v0 : Int32) (v1 : Int32) : Option (Int32) :=
  zn v1 <|
  zl (v0 / v1) fun x3 =>
  if 0 ≤ (v0 ^^^ v1) then
    some x3
  else
    if (x3 * v1) = v0 then
      some x3
    else
      some (x3 - (1 : Int32))
set_option maxHeartbeats 4000000 in
set_option maxRecDepth 100000 in
theorem k_J9_floorDiv_7cf53 {v0 : Int32} {v1 : Int32} {z : Int32} (C : cx p s m args meth c cJ9_floorDiv_7cf53 3 (some .int) RJ9 D cy A) (hf : f_J9_floorDiv_7cf53 v0 v1 = some z) (hP : va_P D vwCl [] H) (hD : va_D A []) (hS : va_S A s.heap H locs) (hl : lv_has ls 3 [(0, .int v0), (1, .int v1)]) : W p l e ({ frames := 0, cells := 0, slots := 0, locals := 0 } : Room) s m args below meth c H locs 0 0 (MQ below (kqi D cy [] z A) args s 0 0 A) (F0 m 0 ls []) := by
  obtain ⟨hx, hb, hr, hml, hown, hts, hlk, hK, hA, hN⟩ := id C
  unfold f_J9_floorDiv_7cf53 at hf
  refine lv_iload_n hx hb dJ9_floorDiv_7cf53_0 rfl (lv_at hl 0 rfl) ?_
  refine lv_iload_n hx hb dJ9_floorDiv_7cf53_1 rfl (lv_at hl 1 rfl) ?_
  obtain ⟨hne, hf⟩ := zn_of hf
  refine lv_idiv hx hb dJ9_floorDiv_7cf53_2 hne ?_
  refine lv_topi (fun x3 ex3 => ?_)
  have hf := zl_of hf x3 ex3
  refine lv_istore_n (lv' := [(2, .int x3), (0, .int v0), (1, .int v1)]) hx hb dJ9_floorDiv_7cf53_3 rfl hl (by decide) rfl (fun ls hl => ?_)
  refine lv_iload_n hx hb dJ9_floorDiv_7cf53_4 rfl (lv_at hl 1 rfl) ?_
  refine lv_iload_n hx hb dJ9_floorDiv_7cf53_5 rfl (lv_at hl 2 rfl) ?_
  refine lv_ixor hx hb dJ9_floorDiv_7cf53_6 ?_
  refine lv_if_ge (tgt := 21) hx hb dJ9_floorDiv_7cf53_7 (by decide) (fun c7 => ?_) (fun c7 => ?_)
  · have hf := zt c7 hf
    refine lv_iload_n hx hb dJ9_floorDiv_7cf53_21 rfl (lv_at hl 0 rfl) ?_
    obtain rfl := Option.some.inj hf
    exact ret_i C hP hD hS dJ9_floorDiv_7cf53_22
  · have hf := zf c7 hf
    refine lv_iload_n hx hb dJ9_floorDiv_7cf53_10 rfl (lv_at hl 0 rfl) ?_
    refine lv_iload_n hx hb dJ9_floorDiv_7cf53_11 rfl (lv_at hl 2 rfl) ?_
    refine lv_imul hx hb dJ9_floorDiv_7cf53_12 ?_
    refine lv_iload_n hx hb dJ9_floorDiv_7cf53_13 rfl (lv_at hl 1 rfl) ?_
    refine lv_icmp_eq (tgt := 21) hx hb dJ9_floorDiv_7cf53_14 (by decide) (fun c14 => ?_) (fun c14 => ?_)
    · have hf := zt c14 hf
      refine lv_iload_n hx hb dJ9_floorDiv_7cf53_21 rfl (lv_at hl 0 rfl) ?_
      obtain rfl := Option.some.inj hf
      exact ret_i C hP hD hS dJ9_floorDiv_7cf53_22
    · have hf := zf c14 hf
      refine lv_iload_n hx hb dJ9_floorDiv_7cf53_17 rfl (lv_at hl 0 rfl) ?_
      refine lv_iconst (v := 1) hx hb dJ9_floorDiv_7cf53_18 (by decide) ?_
      refine lv_isub hx hb dJ9_floorDiv_7cf53_19 ?_
      obtain rfl := Option.some.inj hf
      exact ret_i C hP hD hS dJ9_floorDiv_7cf53_20
set_option maxRecDepth 100000 in
theorem c_J9_floorDiv_7cf53 (l : Launch) (D : va_G) (cy : Nat → ClassId) (sz : Nat) (v0 : Int32) (v1 : Int32) {z : Int32} (hf : f_J9_floorDiv_7cf53 v0 v1 = some z) : Met l yJ9_floorDiv_7cf53 (.code yJ9_floorDiv_7cf53 cJ9_floorDiv_7cf53 3 (some .int) :: tb) ({ frames := 0, cells := 0, slots := 0, locals := 0 } : Room) (kp D cy sz [.int v0, .int v1] []) (kqi D cy [] z (va_A [] sz)) 0 0 (va_A [] sz) :=
  met_of (fun A => kqi D cy [] z A) (by decide +kernel) (Nat.le_of_ble_eq_true rfl) (fun p e s m below meth c A ls C hP hD hS hl => k_J9_floorDiv_7cf53 C hf hP hD hS hl)
theorem hd_J9_floorDiv_7cf53 : yJ9_floorDiv_7cf53.cls ≠ "java/lang/invoke/MethodHandle" ∧ yJ9_floorDiv_7cf53.cls ≠ "java/lang/invoke/VarHandle" ∧ (parseMethodDescriptor yJ9_floorDiv_7cf53.desc).map (fun d => d.parameters.length) = some 2 := by decide +kernel
def f_J6_bitCount_0f7a4 (v0 : Int32) : Option (Int32) :=
  zl (v0 - (((v0.toUInt32 >>> ((1 : Int32).toUInt32 &&& Int32.toUInt32 31)).toInt32) &&& (1431655765 : Int32))) fun x9 =>
  zl ((x9 &&& (858993459 : Int32)) + (((x9.toUInt32 >>> ((2 : Int32).toUInt32 &&& Int32.toUInt32 31)).toInt32) &&& (858993459 : Int32))) fun x23 =>
  zl ((x23 + ((x23.toUInt32 >>> ((4 : Int32).toUInt32 &&& Int32.toUInt32 31)).toInt32)) &&& (252645135 : Int32)) fun x33 =>
  zl (x33 + ((x33.toUInt32 >>> ((8 : Int32).toUInt32 &&& Int32.toUInt32 31)).toInt32)) fun x40 =>
  zl (x40 + ((x40.toUInt32 >>> ((16 : Int32).toUInt32 &&& Int32.toUInt32 31)).toInt32)) fun x47 =>
  some (x47 &&& (63 : Int32))
set_option maxHeartbeats 4000000 in
set_option maxRecDepth 100000 in
theorem k_J6_bitCount_0f7a4 {v0 : Int32} {z : Int32} (C : cx p s m args meth c cJ6_bitCount_0f7a4 1 (some .int) RJ6 D cy A) (hf : f_J6_bitCount_0f7a4 v0 = some z) (hP : va_P D vwCl [] H) (hD : va_D A []) (hS : va_S A s.heap H locs) (hl : lv_has ls 1 [(0, .int v0)]) : W p l e ({ frames := 0, cells := 0, slots := 0, locals := 0 } : Room) s m args below meth c H locs 0 0 (MQ below (kqi D cy [] z A) args s 0 0 A) (F0 m 0 ls []) := by
  obtain ⟨hx, hb, hr, hml, hown, hts, hlk, hK, hA, hN⟩ := id C
  unfold f_J6_bitCount_0f7a4 at hf
  refine lv_iload_n hx hb dJ6_bitCount_0f7a4_0 rfl (lv_at hl 0 rfl) ?_
  refine lv_iload_n hx hb dJ6_bitCount_0f7a4_1 rfl (lv_at hl 0 rfl) ?_
  refine lv_iconst (v := 1) hx hb dJ6_bitCount_0f7a4_2 (by decide) ?_
  refine lv_iushr hx hb dJ6_bitCount_0f7a4_3 rfl ?_
  refine lv_ldcw hx hb hown (hts _ kc_J6_265) dJ6_bitCount_0f7a4_4 ?_
  refine lv_iand hx hb dJ6_bitCount_0f7a4_7 ?_
  refine lv_isub hx hb dJ6_bitCount_0f7a4_8 ?_
  refine lv_topi (fun x9 ex9 => ?_)
  have hf := zl_of hf x9 ex9
  refine lv_istore_n (lv' := [(0, .int x9)]) hx hb dJ6_bitCount_0f7a4_9 rfl hl (by decide) rfl (fun ls hl => ?_)
  refine lv_iload_n hx hb dJ6_bitCount_0f7a4_10 rfl (lv_at hl 0 rfl) ?_
  refine lv_ldcw hx hb hown (hts _ kc_J6_266) dJ6_bitCount_0f7a4_11 ?_
  refine lv_iand hx hb dJ6_bitCount_0f7a4_14 ?_
  refine lv_iload_n hx hb dJ6_bitCount_0f7a4_15 rfl (lv_at hl 0 rfl) ?_
  refine lv_iconst (v := 2) hx hb dJ6_bitCount_0f7a4_16 (by decide) ?_
  refine lv_iushr hx hb dJ6_bitCount_0f7a4_17 rfl ?_
  refine lv_ldcw hx hb hown (hts _ kc_J6_266) dJ6_bitCount_0f7a4_18 ?_
  refine lv_iand hx hb dJ6_bitCount_0f7a4_21 ?_
  refine lv_iadd hx hb dJ6_bitCount_0f7a4_22 ?_
  refine lv_topi (fun x23 ex23 => ?_)
  have hf := zl_of hf x23 ex23
  refine lv_istore_n (lv' := [(0, .int x23)]) hx hb dJ6_bitCount_0f7a4_23 rfl hl (by decide) rfl (fun ls hl => ?_)
  refine lv_iload_n hx hb dJ6_bitCount_0f7a4_24 rfl (lv_at hl 0 rfl) ?_
  refine lv_iload_n hx hb dJ6_bitCount_0f7a4_25 rfl (lv_at hl 0 rfl) ?_
  refine lv_iconst (v := 4) hx hb dJ6_bitCount_0f7a4_26 (by decide) ?_
  refine lv_iushr hx hb dJ6_bitCount_0f7a4_27 rfl ?_
  refine lv_iadd hx hb dJ6_bitCount_0f7a4_28 ?_
  refine lv_ldcw hx hb hown (hts _ kc_J6_267) dJ6_bitCount_0f7a4_29 ?_
  refine lv_iand hx hb dJ6_bitCount_0f7a4_32 ?_
  refine lv_topi (fun x33 ex33 => ?_)
  have hf := zl_of hf x33 ex33
  refine lv_istore_n (lv' := [(0, .int x33)]) hx hb dJ6_bitCount_0f7a4_33 rfl hl (by decide) rfl (fun ls hl => ?_)
  refine lv_iload_n hx hb dJ6_bitCount_0f7a4_34 rfl (lv_at hl 0 rfl) ?_
  refine lv_iload_n hx hb dJ6_bitCount_0f7a4_35 rfl (lv_at hl 0 rfl) ?_
  refine lv_bipush (v := 8) hx hb dJ6_bitCount_0f7a4_36 (by decide) ?_
  refine lv_iushr hx hb dJ6_bitCount_0f7a4_38 rfl ?_
  refine lv_iadd hx hb dJ6_bitCount_0f7a4_39 ?_
  refine lv_topi (fun x40 ex40 => ?_)
  have hf := zl_of hf x40 ex40
  refine lv_istore_n (lv' := [(0, .int x40)]) hx hb dJ6_bitCount_0f7a4_40 rfl hl (by decide) rfl (fun ls hl => ?_)
  refine lv_iload_n hx hb dJ6_bitCount_0f7a4_41 rfl (lv_at hl 0 rfl) ?_
  refine lv_iload_n hx hb dJ6_bitCount_0f7a4_42 rfl (lv_at hl 0 rfl) ?_
  refine lv_bipush (v := 16) hx hb dJ6_bitCount_0f7a4_43 (by decide) ?_
  refine lv_iushr hx hb dJ6_bitCount_0f7a4_45 rfl ?_
  refine lv_iadd hx hb dJ6_bitCount_0f7a4_46 ?_
  refine lv_topi (fun x47 ex47 => ?_)
  have hf := zl_of hf x47 ex47
  refine lv_istore_n (lv' := [(0, .int x47)]) hx hb dJ6_bitCount_0f7a4_47 rfl hl (by decide) rfl (fun ls hl => ?_)
  refine lv_iload_n hx hb dJ6_bitCount_0f7a4_48 rfl (lv_at hl 0 rfl) ?_
  refine lv_bipush (v := 63) hx hb dJ6_bitCount_0f7a4_49 (by decide) ?_
  refine lv_iand hx hb dJ6_bitCount_0f7a4_51 ?_
  obtain rfl := Option.some.inj hf
  exact ret_i C hP hD hS dJ6_bitCount_0f7a4_52
set_option maxRecDepth 100000 in
theorem c_J6_bitCount_0f7a4 (l : Launch) (D : va_G) (cy : Nat → ClassId) (sz : Nat) (v0 : Int32) {z : Int32} (hf : f_J6_bitCount_0f7a4 v0 = some z) : Met l yJ6_bitCount_0f7a4 (.code yJ6_bitCount_0f7a4 cJ6_bitCount_0f7a4 1 (some .int) :: tb) ({ frames := 0, cells := 0, slots := 0, locals := 0 } : Room) (kp D cy sz [.int v0] []) (kqi D cy [] z (va_A [] sz)) 0 0 (va_A [] sz) :=
  met_of (fun A => kqi D cy [] z A) (by decide +kernel) (Nat.le_of_ble_eq_true rfl) (fun p e s m below meth c A ls C hP hD hS hl => k_J6_bitCount_0f7a4 C hf hP hD hS hl)
theorem hd_J6_bitCount_0f7a4 : yJ6_bitCount_0f7a4.cls ≠ "java/lang/invoke/MethodHandle" ∧ yJ6_bitCount_0f7a4.cls ≠ "java/lang/invoke/VarHandle" ∧ (parseMethodDescriptor yJ6_bitCount_0f7a4.desc).map (fun d => d.parameters.length) = some 1 := by decide +kernel
def f_X5_codes (m_h_bits : Int32) : Option (Int32) :=
  some ((1 : Int32) <<< (m_h_bits &&& 31))
set_option maxHeartbeats 4000000 in
set_option maxRecDepth 100000 in
theorem k_X5_codes {h q_h_misses q_h_resistors : Nat} {m_h_bits : Int32} {m_h_unit : Int32} {m_h_offset : Int32} {m_h_lean : Int32} {m_h_ref : Int32} {m_h_top : Int32} {z : Int32} (C : cx p s m args meth c cX5_codes 1 (some .int) RX5 D cy A) (hf : f_X5_codes m_h_bits = some z) (hP : va_P D vwCl [(h, .inr (5, [.int m_h_bits, .int m_h_unit, .int m_h_offset, .int m_h_lean, .int m_h_ref, .int m_h_top, .ref q_h_misses, .ref q_h_resistors]))] H) (hD : va_D A [(h, .inr (5, [.int m_h_bits, .int m_h_unit, .int m_h_offset, .int m_h_lean, .int m_h_ref, .int m_h_top, .ref q_h_misses, .ref q_h_resistors]))]) (hS : va_S A s.heap H locs) (hl : lv_has ls 1 [(0, .ref h)]) : W p l e ({ frames := 0, cells := 0, slots := 0, locals := 0 } : Room) s m args below meth c H locs 0 0 (MQ below (kqi D cy [(h, .inr (5, [.int m_h_bits, .int m_h_unit, .int m_h_offset, .int m_h_lean, .int m_h_ref, .int m_h_top, .ref q_h_misses, .ref q_h_resistors]))] z A) args s 0 0 A) (F0 m 0 ls []) := by
  obtain ⟨hx, hb, hr, hml, hown, hts, hlk, hK, hA, hN⟩ := id C
  unfold f_X5_codes at hf
  refine lv_iconst (v := 1) hx hb dX5_codes_0 (by decide) ?_
  refine lv_aload_n hx hb dX5_codes_1 rfl (lv_at hl 0 rfl) ?_
  refine va_get (D := D) (ci := 5) (v := .int m_h_bits) (C := RX5) (T := TX5) (N := 8) hx hb hts ui_X5 hown hK hP 0 rfl rfl 0 (by decide) (hts _ fl_X5_19) (fun _ h9 => h9) rfl dX5_codes_2 ?_
  refine lv_ishl hx hb dX5_codes_5 ?_
  obtain rfl := Option.some.inj hf
  exact ret_i C hP hD hS dX5_codes_6
set_option maxRecDepth 100000 in
theorem c_X5_codes (l : Launch) (D : va_G) (cy : Nat → ClassId) (sz : Nat) (h q_h_misses q_h_resistors : Nat) (m_h_bits : Int32) (m_h_unit : Int32) (m_h_offset : Int32) (m_h_lean : Int32) (m_h_ref : Int32) (m_h_top : Int32) {z : Int32} (hf : f_X5_codes m_h_bits = some z) : Met l yX5_codes (.code yX5_codes cX5_codes 1 (some .int) :: tb) ({ frames := 0, cells := 0, slots := 0, locals := 0 } : Room) (kp D cy sz [.ref h] [(h, .inr (5, [.int m_h_bits, .int m_h_unit, .int m_h_offset, .int m_h_lean, .int m_h_ref, .int m_h_top, .ref q_h_misses, .ref q_h_resistors]))]) (kqi D cy [(h, .inr (5, [.int m_h_bits, .int m_h_unit, .int m_h_offset, .int m_h_lean, .int m_h_ref, .int m_h_top, .ref q_h_misses, .ref q_h_resistors]))] z (va_A [(h, .inr (5, [.int m_h_bits, .int m_h_unit, .int m_h_offset, .int m_h_lean, .int m_h_ref, .int m_h_top, .ref q_h_misses, .ref q_h_resistors]))] sz)) 0 0 (va_A [(h, .inr (5, [.int m_h_bits, .int m_h_unit, .int m_h_offset, .int m_h_lean, .int m_h_ref, .int m_h_top, .ref q_h_misses, .ref q_h_resistors]))] sz) :=
  met_of (fun A => kqi D cy [(h, .inr (5, [.int m_h_bits, .int m_h_unit, .int m_h_offset, .int m_h_lean, .int m_h_ref, .int m_h_top, .ref q_h_misses, .ref q_h_resistors]))] z A) (by decide +kernel) (Nat.le_of_ble_eq_true rfl) (fun p e s m below meth c A ls C hP hD hS hl => k_X5_codes C hf hP hD hS hl)
theorem hd_X5_codes : yX5_codes.cls ≠ "java/lang/invoke/MethodHandle" ∧ yX5_codes.cls ≠ "java/lang/invoke/VarHandle" ∧ (parseMethodDescriptor yX5_codes.desc).map (fun d => d.parameters.length) = some 0 := by decide +kernel
def f_X5_isCode (v1 : Int32) (m_h_bits : Int32) : Option (Int32) :=
  if v1 < 0 then
    some (0 : Int32)
  else
    zb (f_X5_codes m_h_bits) fun z6 =>
    if z6 ≤ v1 then
      some (0 : Int32)
    else
      some (1 : Int32)
set_option maxHeartbeats 4000000 in
set_option maxRecDepth 100000 in
theorem k_X5_isCode {h q_h_misses q_h_resistors : Nat} {v1 : Int32} {m_h_bits : Int32} {m_h_unit : Int32} {m_h_offset : Int32} {m_h_lean : Int32} {m_h_ref : Int32} {m_h_top : Int32} {z : Int32} (C : cx p s m args meth c cX5_isCode 2 (some .boolean) RX5 D cy A) (hf : f_X5_isCode v1 m_h_bits = some z) (hP : va_P D vwCl [(h, .inr (5, [.int m_h_bits, .int m_h_unit, .int m_h_offset, .int m_h_lean, .int m_h_ref, .int m_h_top, .ref q_h_misses, .ref q_h_resistors]))] H) (hD : va_D A [(h, .inr (5, [.int m_h_bits, .int m_h_unit, .int m_h_offset, .int m_h_lean, .int m_h_ref, .int m_h_top, .ref q_h_misses, .ref q_h_resistors]))]) (hS : va_S A s.heap H locs) (hl : lv_has ls 2 [(0, .ref h), (1, .int v1)]) : W p l e ({ frames := 1, cells := 0, slots := 0, locals := 20 } : Room) s m args below meth c H locs 0 0 (MQ below (kqz D cy [(h, .inr (5, [.int m_h_bits, .int m_h_unit, .int m_h_offset, .int m_h_lean, .int m_h_ref, .int m_h_top, .ref q_h_misses, .ref q_h_resistors]))] z A) args s 0 0 A) (F0 m 0 ls []) := by
  obtain ⟨hx, hb, hr, hml, hown, hts, hlk, hK, hA, hN⟩ := id C
  unfold f_X5_isCode at hf
  refine lv_iload_n hx hb dX5_isCode_0 rfl (lv_at hl 1 rfl) ?_
  refine lv_if_lt (tgt := 16) hx hb dX5_isCode_1 (by decide) (fun c1 => ?_) (fun c1 => ?_)
  · have hf := zt c1 hf
    refine lv_iconst (v := 0) hx hb dX5_isCode_16 (by decide) ?_
    obtain rfl := Option.some.inj hf
    exact ret_z C rfl hP hD hS dX5_isCode_17
  · have hf := zf c1 hf
    refine lv_iload_n hx hb dX5_isCode_4 rfl (lv_at hl 1 rfl) ?_
    refine lv_aload_n hx hb dX5_isCode_5 rfl (lv_at hl 0 rfl) ?_
    obtain ⟨z6, hz6, hf⟩ := zb_of hf
    refine goI (wr := []) (ws' := [(h, .inr (5, [.int m_h_bits, .int m_h_unit, .int m_h_offset, .int m_h_lean, .int m_h_ref, .int m_h_top, .ref q_h_misses, .ref q_h_resistors]))]) C (runV (n := 0) (As := []) (rest := [.int v1]) C (c_X5_codes l D cy H.size h q_h_misses q_h_resistors m_h_bits m_h_unit m_h_offset m_h_lean m_h_ref m_h_top hz6) ml_X5_51 im_X5_codes se_X5_codes ii_X5 cd_X5_codes hd_X5_codes rfl rfl ⟨Nat.le_of_ble_eq_true rfl, Nat.le_of_ble_eq_true rfl⟩ (hP.sub [0] rfl) (hD.sub [0] (by decide) rfl) rfl rfl rfl hl.1 rfl (Nat.le_of_ble_eq_true rfl) dX5_isCode_6) hP hD hS [0] [] [0] rfl rfl (by decide) (by decide) rfl (by decide) (fun H locs hP hD hS => ?_)
    refine lv_icmp_ge (tgt := 16) hx hb dX5_isCode_9 (by decide) (fun c9 => ?_) (fun c9 => ?_)
    · have hf := zt c9 hf
      refine lv_iconst (v := 0) hx hb dX5_isCode_16 (by decide) ?_
      obtain rfl := Option.some.inj hf
      exact ret_z C rfl hP hD hS dX5_isCode_17
    · have hf := zf c9 hf
      refine lv_iconst (v := 1) hx hb dX5_isCode_12 (by decide) ?_
      refine lv_goto (tgt := 17) hx hb dX5_isCode_13 (by decide) ?_
      obtain rfl := Option.some.inj hf
      exact ret_z C rfl hP hD hS dX5_isCode_17
set_option maxRecDepth 100000 in
theorem c_X5_isCode (l : Launch) (D : va_G) (cy : Nat → ClassId) (sz : Nat) (h q_h_misses q_h_resistors : Nat) (v1 : Int32) (m_h_bits : Int32) (m_h_unit : Int32) (m_h_offset : Int32) (m_h_lean : Int32) (m_h_ref : Int32) (m_h_top : Int32) {z : Int32} (hf : f_X5_isCode v1 m_h_bits = some z) : Met l yX5_isCode (.code yX5_isCode cX5_isCode 2 (some .boolean) :: tb) ({ frames := 1, cells := 0, slots := 0, locals := 20 } : Room) (kp D cy sz [.ref h, .int v1] [(h, .inr (5, [.int m_h_bits, .int m_h_unit, .int m_h_offset, .int m_h_lean, .int m_h_ref, .int m_h_top, .ref q_h_misses, .ref q_h_resistors]))]) (kqz D cy [(h, .inr (5, [.int m_h_bits, .int m_h_unit, .int m_h_offset, .int m_h_lean, .int m_h_ref, .int m_h_top, .ref q_h_misses, .ref q_h_resistors]))] z (va_A [(h, .inr (5, [.int m_h_bits, .int m_h_unit, .int m_h_offset, .int m_h_lean, .int m_h_ref, .int m_h_top, .ref q_h_misses, .ref q_h_resistors]))] sz)) 0 0 (va_A [(h, .inr (5, [.int m_h_bits, .int m_h_unit, .int m_h_offset, .int m_h_lean, .int m_h_ref, .int m_h_top, .ref q_h_misses, .ref q_h_resistors]))] sz) :=
  met_of (fun A => kqz D cy [(h, .inr (5, [.int m_h_bits, .int m_h_unit, .int m_h_offset, .int m_h_lean, .int m_h_ref, .int m_h_top, .ref q_h_misses, .ref q_h_resistors]))] z A) (by decide +kernel) (Nat.le_of_ble_eq_true rfl) (fun p e s m below meth c A ls C hP hD hS hl => k_X5_isCode C hf hP hD hS hl)
theorem hd_X5_isCode : yX5_isCode.cls ≠ "java/lang/invoke/MethodHandle" ∧ yX5_isCode.cls ≠ "java/lang/invoke/VarHandle" ∧ (parseMethodDescriptor yX5_isCode.desc).map (fun d => d.parameters.length) = some 1 := by decide +kernel
def f_X5_parts (m_h_bits : Int32) (m_h_top : Int32) : Option (Int32) :=
  if m_h_top = 0 then
    some m_h_bits
  else
    some (m_h_bits + (1 : Int32))
set_option maxHeartbeats 4000000 in
set_option maxRecDepth 100000 in
theorem k_X5_parts {h q_h_misses q_h_resistors : Nat} {m_h_bits : Int32} {m_h_unit : Int32} {m_h_offset : Int32} {m_h_lean : Int32} {m_h_ref : Int32} {m_h_top : Int32} {z : Int32} (C : cx p s m args meth c cX5_parts 1 (some .int) RX5 D cy A) (hf : f_X5_parts m_h_bits m_h_top = some z) (hP : va_P D vwCl [(h, .inr (5, [.int m_h_bits, .int m_h_unit, .int m_h_offset, .int m_h_lean, .int m_h_ref, .int m_h_top, .ref q_h_misses, .ref q_h_resistors]))] H) (hD : va_D A [(h, .inr (5, [.int m_h_bits, .int m_h_unit, .int m_h_offset, .int m_h_lean, .int m_h_ref, .int m_h_top, .ref q_h_misses, .ref q_h_resistors]))]) (hS : va_S A s.heap H locs) (hl : lv_has ls 1 [(0, .ref h)]) : W p l e ({ frames := 0, cells := 0, slots := 0, locals := 0 } : Room) s m args below meth c H locs 0 0 (MQ below (kqi D cy [(h, .inr (5, [.int m_h_bits, .int m_h_unit, .int m_h_offset, .int m_h_lean, .int m_h_ref, .int m_h_top, .ref q_h_misses, .ref q_h_resistors]))] z A) args s 0 0 A) (F0 m 0 ls []) := by
  obtain ⟨hx, hb, hr, hml, hown, hts, hlk, hK, hA, hN⟩ := id C
  unfold f_X5_parts at hf
  refine lv_aload_n hx hb dX5_parts_0 rfl (lv_at hl 0 rfl) ?_
  refine va_get (D := D) (ci := 5) (v := .int m_h_top) (C := RX5) (T := TX5) (N := 8) hx hb hts ui_X5 hown hK hP 0 rfl rfl 5 (by decide) (hts _ fl_X5_35) (fun _ h9 => h9) rfl dX5_parts_1 ?_
  refine lv_if_eq (tgt := 16) hx hb dX5_parts_4 (by decide) (fun c4 => ?_) (fun c4 => ?_)
  · have hf := zt c4 hf
    refine lv_aload_n hx hb dX5_parts_16 rfl (lv_at hl 0 rfl) ?_
    refine va_get (D := D) (ci := 5) (v := .int m_h_bits) (C := RX5) (T := TX5) (N := 8) hx hb hts ui_X5 hown hK hP 0 rfl rfl 0 (by decide) (hts _ fl_X5_19) (fun _ h9 => h9) rfl dX5_parts_17 ?_
    obtain rfl := Option.some.inj hf
    exact ret_i C hP hD hS dX5_parts_20
  · have hf := zf c4 hf
    refine lv_aload_n hx hb dX5_parts_7 rfl (lv_at hl 0 rfl) ?_
    refine va_get (D := D) (ci := 5) (v := .int m_h_bits) (C := RX5) (T := TX5) (N := 8) hx hb hts ui_X5 hown hK hP 0 rfl rfl 0 (by decide) (hts _ fl_X5_19) (fun _ h9 => h9) rfl dX5_parts_8 ?_
    refine lv_iconst (v := 1) hx hb dX5_parts_11 (by decide) ?_
    refine lv_iadd hx hb dX5_parts_12 ?_
    refine lv_goto (tgt := 20) hx hb dX5_parts_13 (by decide) ?_
    obtain rfl := Option.some.inj hf
    exact ret_i C hP hD hS dX5_parts_20
set_option maxRecDepth 100000 in
theorem c_X5_parts (l : Launch) (D : va_G) (cy : Nat → ClassId) (sz : Nat) (h q_h_misses q_h_resistors : Nat) (m_h_bits : Int32) (m_h_unit : Int32) (m_h_offset : Int32) (m_h_lean : Int32) (m_h_ref : Int32) (m_h_top : Int32) {z : Int32} (hf : f_X5_parts m_h_bits m_h_top = some z) : Met l yX5_parts (.code yX5_parts cX5_parts 1 (some .int) :: tb) ({ frames := 0, cells := 0, slots := 0, locals := 0 } : Room) (kp D cy sz [.ref h] [(h, .inr (5, [.int m_h_bits, .int m_h_unit, .int m_h_offset, .int m_h_lean, .int m_h_ref, .int m_h_top, .ref q_h_misses, .ref q_h_resistors]))]) (kqi D cy [(h, .inr (5, [.int m_h_bits, .int m_h_unit, .int m_h_offset, .int m_h_lean, .int m_h_ref, .int m_h_top, .ref q_h_misses, .ref q_h_resistors]))] z (va_A [(h, .inr (5, [.int m_h_bits, .int m_h_unit, .int m_h_offset, .int m_h_lean, .int m_h_ref, .int m_h_top, .ref q_h_misses, .ref q_h_resistors]))] sz)) 0 0 (va_A [(h, .inr (5, [.int m_h_bits, .int m_h_unit, .int m_h_offset, .int m_h_lean, .int m_h_ref, .int m_h_top, .ref q_h_misses, .ref q_h_resistors]))] sz) :=
  met_of (fun A => kqi D cy [(h, .inr (5, [.int m_h_bits, .int m_h_unit, .int m_h_offset, .int m_h_lean, .int m_h_ref, .int m_h_top, .ref q_h_misses, .ref q_h_resistors]))] z A) (by decide +kernel) (Nat.le_of_ble_eq_true rfl) (fun p e s m below meth c A ls C hP hD hS hl => k_X5_parts C hf hP hD hS hl)
theorem hd_X5_parts : yX5_parts.cls ≠ "java/lang/invoke/MethodHandle" ∧ yX5_parts.cls ≠ "java/lang/invoke/VarHandle" ∧ (parseMethodDescriptor yX5_parts.desc).map (fun d => d.parameters.length) = some 0 := by decide +kernel
def f_X5_missOf (v1 : Int32) (m_h_bits : Int32) (m_h_top : Int32) (m_h_misses : Nat → Int32) : Option (Int32) :=
  if v1 < 0 then
    some (0 : Int32)
  else
    zb (f_X5_parts m_h_bits m_h_top) fun z6 =>
    if z6 ≤ v1 then
      some (0 : Int32)
    else
      if (9 : Int32) ≤ v1 then
        some (0 : Int32)
      else
        zc v1 9 <|
        some (m_h_misses v1.toNatClampNeg)
set_option maxHeartbeats 4000000 in
set_option maxRecDepth 100000 in
theorem k_X5_missOf {h q_h_misses q_h_resistors : Nat} {v1 : Int32} {m_h_bits : Int32} {m_h_unit : Int32} {m_h_offset : Int32} {m_h_lean : Int32} {m_h_ref : Int32} {m_h_top : Int32} {m_h_misses : Nat → Int32} {z : Int32} (C : cx p s m args meth c cX5_missOf 2 (some .int) RX5 D cy A) (hf : f_X5_missOf v1 m_h_bits m_h_top m_h_misses = some z) (hP : va_P D vwCl [(h, .inr (5, [.int m_h_bits, .int m_h_unit, .int m_h_offset, .int m_h_lean, .int m_h_ref, .int m_h_top, .ref q_h_misses, .ref q_h_resistors])), (q_h_misses, aI cy 9 m_h_misses)] H) (hD : va_D A [(h, .inr (5, [.int m_h_bits, .int m_h_unit, .int m_h_offset, .int m_h_lean, .int m_h_ref, .int m_h_top, .ref q_h_misses, .ref q_h_resistors])), (q_h_misses, aI cy 9 m_h_misses)]) (hS : va_S A s.heap H locs) (hl : lv_has ls 2 [(0, .ref h), (1, .int v1)]) : W p l e ({ frames := 1, cells := 0, slots := 0, locals := 20 } : Room) s m args below meth c H locs 0 0 (MQ below (kqi D cy [(h, .inr (5, [.int m_h_bits, .int m_h_unit, .int m_h_offset, .int m_h_lean, .int m_h_ref, .int m_h_top, .ref q_h_misses, .ref q_h_resistors])), (q_h_misses, aI cy 9 m_h_misses)] z A) args s 0 0 A) (F0 m 0 ls []) := by
  obtain ⟨hx, hb, hr, hml, hown, hts, hlk, hK, hA, hN⟩ := id C
  unfold f_X5_missOf at hf
  refine lv_iload_n hx hb dX5_missOf_0 rfl (lv_at hl 1 rfl) ?_
  refine lv_if_lt (tgt := 30) hx hb dX5_missOf_1 (by decide) (fun c1 => ?_) (fun c1 => ?_)
  · have hf := zt c1 hf
    refine lv_iconst (v := 0) hx hb dX5_missOf_30 (by decide) ?_
    obtain rfl := Option.some.inj hf
    exact ret_i C hP hD hS dX5_missOf_31
  · have hf := zf c1 hf
    refine lv_iload_n hx hb dX5_missOf_4 rfl (lv_at hl 1 rfl) ?_
    refine lv_aload_n hx hb dX5_missOf_5 rfl (lv_at hl 0 rfl) ?_
    obtain ⟨z6, hz6, hf⟩ := zb_of hf
    refine goI (wr := [(q_h_misses, aI cy 9 m_h_misses)]) (ws' := [(h, .inr (5, [.int m_h_bits, .int m_h_unit, .int m_h_offset, .int m_h_lean, .int m_h_ref, .int m_h_top, .ref q_h_misses, .ref q_h_resistors])), (q_h_misses, aI cy 9 m_h_misses)]) C (runV (n := 0) (As := []) (rest := [.int v1]) C (c_X5_parts l D cy H.size h q_h_misses q_h_resistors m_h_bits m_h_unit m_h_offset m_h_lean m_h_ref m_h_top hz6) ml_X5_55 im_X5_parts se_X5_parts ii_X5 cd_X5_parts hd_X5_parts rfl rfl ⟨Nat.le_of_ble_eq_true rfl, Nat.le_of_ble_eq_true rfl⟩ (hP.sub [0] rfl) (hD.sub [0] (by decide) rfl) rfl rfl rfl hl.1 rfl (Nat.le_of_ble_eq_true rfl) dX5_missOf_6) hP hD hS [0] [1] [1, 0] rfl rfl (by decide) (by decide) rfl (by decide) (fun H locs hP hD hS => ?_)
    refine lv_icmp_ge (tgt := 30) hx hb dX5_missOf_9 (by decide) (fun c9 => ?_) (fun c9 => ?_)
    · have hf := zt c9 hf
      refine lv_iconst (v := 0) hx hb dX5_missOf_30 (by decide) ?_
      obtain rfl := Option.some.inj hf
      exact ret_i C hP hD hS dX5_missOf_31
    · have hf := zf c9 hf
      refine lv_iload_n hx hb dX5_missOf_12 rfl (lv_at hl 1 rfl) ?_
      refine lv_aload_n hx hb dX5_missOf_13 rfl (lv_at hl 0 rfl) ?_
      refine va_get (D := D) (ci := 5) (v := .ref q_h_misses) (C := RX5) (T := TX5) (N := 8) hx hb hts ui_X5 hown hK hP 0 rfl rfl 6 (by decide) (hts _ fl_X5_9) (fun _ h9 => h9) rfl dX5_missOf_14 ?_
      refine va_alen (v := (9 : Int32)) hx hb hK hP 1 1 rfl rfl rfl dX5_missOf_17 ?_
      refine lv_icmp_ge (tgt := 30) hx hb dX5_missOf_18 (by decide) (fun c18 => ?_) (fun c18 => ?_)
      · have hf := zt c18 hf
        refine lv_iconst (v := 0) hx hb dX5_missOf_30 (by decide) ?_
        obtain rfl := Option.some.inj hf
        exact ret_i C hP hD hS dX5_missOf_31
      · have hf := zf c18 hf
        refine lv_aload_n hx hb dX5_missOf_21 rfl (lv_at hl 0 rfl) ?_
        refine va_get (D := D) (ci := 5) (v := .ref q_h_misses) (C := RX5) (T := TX5) (N := 8) hx hb hts ui_X5 hown hK hP 0 rfl rfl 6 (by decide) (hts _ fl_X5_9) (fun _ h9 => h9) rfl dX5_missOf_22 ?_
        refine lv_iload_n hx hb dX5_missOf_25 rfl (lv_at hl 1 rfl) ?_
        obtain ⟨hin, hf⟩ := zc_of hf
        refine va_iald hx hb hK hP 1 1 rfl rfl hin dX5_missOf_26 ?_
        refine lv_goto (tgt := 31) hx hb dX5_missOf_27 (by decide) ?_
        obtain rfl := Option.some.inj hf
        exact ret_i C hP hD hS dX5_missOf_31
set_option maxRecDepth 100000 in
theorem c_X5_missOf (l : Launch) (D : va_G) (cy : Nat → ClassId) (sz : Nat) (h q_h_misses q_h_resistors : Nat) (v1 : Int32) (m_h_bits : Int32) (m_h_unit : Int32) (m_h_offset : Int32) (m_h_lean : Int32) (m_h_ref : Int32) (m_h_top : Int32) (m_h_misses : Nat → Int32) {z : Int32} (hf : f_X5_missOf v1 m_h_bits m_h_top m_h_misses = some z) : Met l yX5_missOf (.code yX5_missOf cX5_missOf 2 (some .int) :: tb) ({ frames := 1, cells := 0, slots := 0, locals := 20 } : Room) (kp D cy sz [.ref h, .int v1] [(h, .inr (5, [.int m_h_bits, .int m_h_unit, .int m_h_offset, .int m_h_lean, .int m_h_ref, .int m_h_top, .ref q_h_misses, .ref q_h_resistors])), (q_h_misses, aI cy 9 m_h_misses)]) (kqi D cy [(h, .inr (5, [.int m_h_bits, .int m_h_unit, .int m_h_offset, .int m_h_lean, .int m_h_ref, .int m_h_top, .ref q_h_misses, .ref q_h_resistors])), (q_h_misses, aI cy 9 m_h_misses)] z (va_A [(h, .inr (5, [.int m_h_bits, .int m_h_unit, .int m_h_offset, .int m_h_lean, .int m_h_ref, .int m_h_top, .ref q_h_misses, .ref q_h_resistors])), (q_h_misses, aI cy 9 m_h_misses)] sz)) 0 0 (va_A [(h, .inr (5, [.int m_h_bits, .int m_h_unit, .int m_h_offset, .int m_h_lean, .int m_h_ref, .int m_h_top, .ref q_h_misses, .ref q_h_resistors])), (q_h_misses, aI cy 9 m_h_misses)] sz) :=
  met_of (fun A => kqi D cy [(h, .inr (5, [.int m_h_bits, .int m_h_unit, .int m_h_offset, .int m_h_lean, .int m_h_ref, .int m_h_top, .ref q_h_misses, .ref q_h_resistors])), (q_h_misses, aI cy 9 m_h_misses)] z A) (by decide +kernel) (Nat.le_of_ble_eq_true rfl) (fun p e s m below meth c A ls C hP hD hS hl => k_X5_missOf C hf hP hD hS hl)
theorem hd_X5_missOf : yX5_missOf.cls ≠ "java/lang/invoke/MethodHandle" ∧ yX5_missOf.cls ≠ "java/lang/invoke/VarHandle" ∧ (parseMethodDescriptor yX5_missOf.desc).map (fun d => d.parameters.length) = some 1 := by decide +kernel
def f_X5_evenWeight (v1 : Int32) (m_h_bits : Int32) (m_h_unit : Int32) (m_h_top : Int32) : Option (Int32) :=
  if m_h_top = 0 then
    some (m_h_unit <<< (v1 &&& 31))
  else
    zb (f_J9_min_7cf53 v1 (m_h_bits - (2 : Int32))) fun z18 =>
    some (m_h_unit <<< (z18 &&& 31))
set_option maxHeartbeats 4000000 in
set_option maxRecDepth 100000 in
theorem k_X5_evenWeight {h q_h_misses q_h_resistors : Nat} {v1 : Int32} {m_h_bits : Int32} {m_h_unit : Int32} {m_h_offset : Int32} {m_h_lean : Int32} {m_h_ref : Int32} {m_h_top : Int32} {z : Int32} (C : cx p s m args meth c cX5_evenWeight 2 (some .int) RX5 D cy A) (hf : f_X5_evenWeight v1 m_h_bits m_h_unit m_h_top = some z) (hP : va_P D vwCl [(h, .inr (5, [.int m_h_bits, .int m_h_unit, .int m_h_offset, .int m_h_lean, .int m_h_ref, .int m_h_top, .ref q_h_misses, .ref q_h_resistors]))] H) (hD : va_D A [(h, .inr (5, [.int m_h_bits, .int m_h_unit, .int m_h_offset, .int m_h_lean, .int m_h_ref, .int m_h_top, .ref q_h_misses, .ref q_h_resistors]))]) (hS : va_S A s.heap H locs) (hl : lv_has ls 2 [(0, .ref h), (1, .int v1)]) : W p l e ({ frames := 1, cells := 0, slots := 0, locals := 21 } : Room) s m args below meth c H locs 0 0 (MQ below (kqi D cy [(h, .inr (5, [.int m_h_bits, .int m_h_unit, .int m_h_offset, .int m_h_lean, .int m_h_ref, .int m_h_top, .ref q_h_misses, .ref q_h_resistors]))] z A) args s 0 0 A) (F0 m 0 ls []) := by
  obtain ⟨hx, hb, hr, hml, hown, hts, hlk, hK, hA, hN⟩ := id C
  unfold f_X5_evenWeight at hf
  refine lv_aload_n hx hb dX5_evenWeight_0 rfl (lv_at hl 0 rfl) ?_
  refine va_get (D := D) (ci := 5) (v := .int m_h_unit) (C := RX5) (T := TX5) (N := 8) hx hb hts ui_X5 hown hK hP 0 rfl rfl 1 (by decide) (hts _ fl_X5_23) (fun _ h9 => h9) rfl dX5_evenWeight_1 ?_
  refine lv_aload_n hx hb dX5_evenWeight_4 rfl (lv_at hl 0 rfl) ?_
  refine va_get (D := D) (ci := 5) (v := .int m_h_top) (C := RX5) (T := TX5) (N := 8) hx hb hts ui_X5 hown hK hP 0 rfl rfl 5 (by decide) (hts _ fl_X5_35) (fun _ h9 => h9) rfl dX5_evenWeight_5 ?_
  refine lv_if_eq (tgt := 24) hx hb dX5_evenWeight_8 (by decide) (fun c8 => ?_) (fun c8 => ?_)
  · have hf := zt c8 hf
    refine lv_iload_n hx hb dX5_evenWeight_24 rfl (lv_at hl 1 rfl) ?_
    refine lv_ishl hx hb dX5_evenWeight_25 ?_
    obtain rfl := Option.some.inj hf
    exact ret_i C hP hD hS dX5_evenWeight_26
  · have hf := zf c8 hf
    refine lv_iload_n hx hb dX5_evenWeight_11 rfl (lv_at hl 1 rfl) ?_
    refine lv_aload_n hx hb dX5_evenWeight_12 rfl (lv_at hl 0 rfl) ?_
    refine va_get (D := D) (ci := 5) (v := .int m_h_bits) (C := RX5) (T := TX5) (N := 8) hx hb hts ui_X5 hown hK hP 0 rfl rfl 0 (by decide) (hts _ fl_X5_19) (fun _ h9 => h9) rfl dX5_evenWeight_13 ?_
    refine lv_iconst (v := 2) hx hb dX5_evenWeight_16 (by decide) ?_
    refine lv_isub hx hb dX5_evenWeight_17 ?_
    obtain ⟨z18, hz18, hf⟩ := zb_of hf
    refine goI (wr := [(h, .inr (5, [.int m_h_bits, .int m_h_unit, .int m_h_offset, .int m_h_lean, .int m_h_ref, .int m_h_top, .ref q_h_misses, .ref q_h_resistors]))]) (ws' := [(h, .inr (5, [.int m_h_bits, .int m_h_unit, .int m_h_offset, .int m_h_lean, .int m_h_ref, .int m_h_top, .ref q_h_misses, .ref q_h_resistors]))]) C (runS (n := 2) (As := [.int v1, .int (m_h_bits - (2 : Int32))]) (rest := [.int m_h_unit]) C (c_J9_min_7cf53 l D cy H.size v1 (m_h_bits - (2 : Int32)) hz18) ml_X5_58 st_J9_min_7cf53 ii_J9 cd_J9_min_7cf53 hd_J9_min_7cf53 rfl rfl ⟨Nat.le_of_ble_eq_true rfl, Nat.le_of_ble_eq_true rfl⟩ (hP.sub [] rfl) (hD.sub [] (by decide) rfl) rfl hl.1 rfl (Nat.le_of_ble_eq_true rfl) dX5_evenWeight_18) hP hD hS [] [0] [0] rfl rfl (by decide) (by decide) rfl (by decide) (fun H locs hP hD hS => ?_)
    refine lv_goto (tgt := 25) hx hb dX5_evenWeight_21 (by decide) ?_
    refine lv_ishl hx hb dX5_evenWeight_25 ?_
    obtain rfl := Option.some.inj hf
    exact ret_i C hP hD hS dX5_evenWeight_26
set_option maxRecDepth 100000 in
theorem c_X5_evenWeight (l : Launch) (D : va_G) (cy : Nat → ClassId) (sz : Nat) (h q_h_misses q_h_resistors : Nat) (v1 : Int32) (m_h_bits : Int32) (m_h_unit : Int32) (m_h_offset : Int32) (m_h_lean : Int32) (m_h_ref : Int32) (m_h_top : Int32) {z : Int32} (hf : f_X5_evenWeight v1 m_h_bits m_h_unit m_h_top = some z) : Met l yX5_evenWeight (.code yX5_evenWeight cX5_evenWeight 2 (some .int) :: tb) ({ frames := 1, cells := 0, slots := 0, locals := 21 } : Room) (kp D cy sz [.ref h, .int v1] [(h, .inr (5, [.int m_h_bits, .int m_h_unit, .int m_h_offset, .int m_h_lean, .int m_h_ref, .int m_h_top, .ref q_h_misses, .ref q_h_resistors]))]) (kqi D cy [(h, .inr (5, [.int m_h_bits, .int m_h_unit, .int m_h_offset, .int m_h_lean, .int m_h_ref, .int m_h_top, .ref q_h_misses, .ref q_h_resistors]))] z (va_A [(h, .inr (5, [.int m_h_bits, .int m_h_unit, .int m_h_offset, .int m_h_lean, .int m_h_ref, .int m_h_top, .ref q_h_misses, .ref q_h_resistors]))] sz)) 0 0 (va_A [(h, .inr (5, [.int m_h_bits, .int m_h_unit, .int m_h_offset, .int m_h_lean, .int m_h_ref, .int m_h_top, .ref q_h_misses, .ref q_h_resistors]))] sz) :=
  met_of (fun A => kqi D cy [(h, .inr (5, [.int m_h_bits, .int m_h_unit, .int m_h_offset, .int m_h_lean, .int m_h_ref, .int m_h_top, .ref q_h_misses, .ref q_h_resistors]))] z A) (by decide +kernel) (Nat.le_of_ble_eq_true rfl) (fun p e s m below meth c A ls C hP hD hS hl => k_X5_evenWeight C hf hP hD hS hl)
theorem hd_X5_evenWeight : yX5_evenWeight.cls ≠ "java/lang/invoke/MethodHandle" ∧ yX5_evenWeight.cls ≠ "java/lang/invoke/VarHandle" ∧ (parseMethodDescriptor yX5_evenWeight.desc).map (fun d => d.parameters.length) = some 1 := by decide +kernel
def f_X5_weightOf (v1 : Int32) (m_h_bits : Int32) (m_h_unit : Int32) (m_h_top : Int32) (m_h_misses : Nat → Int32) : Option (Int32) :=
  zb (f_X5_evenWeight v1 m_h_bits m_h_unit m_h_top) fun z3 =>
  zb (f_X5_missOf v1 m_h_bits m_h_top m_h_misses) fun z8 =>
  zb (f_J9_max_7cf53 (0 : Int32) (z3 + z8)) fun z12 =>
  some z12
set_option maxHeartbeats 4000000 in
set_option maxRecDepth 100000 in
theorem k_X5_weightOf {h q_h_misses q_h_resistors : Nat} {v1 : Int32} {m_h_bits : Int32} {m_h_unit : Int32} {m_h_offset : Int32} {m_h_lean : Int32} {m_h_ref : Int32} {m_h_top : Int32} {m_h_misses : Nat → Int32} {z : Int32} (C : cx p s m args meth c cX5_weightOf 2 (some .int) RX5 D cy A) (hf : f_X5_weightOf v1 m_h_bits m_h_unit m_h_top m_h_misses = some z) (hP : va_P D vwCl [(h, .inr (5, [.int m_h_bits, .int m_h_unit, .int m_h_offset, .int m_h_lean, .int m_h_ref, .int m_h_top, .ref q_h_misses, .ref q_h_resistors])), (q_h_misses, aI cy 9 m_h_misses)] H) (hD : va_D A [(h, .inr (5, [.int m_h_bits, .int m_h_unit, .int m_h_offset, .int m_h_lean, .int m_h_ref, .int m_h_top, .ref q_h_misses, .ref q_h_resistors])), (q_h_misses, aI cy 9 m_h_misses)]) (hS : va_S A s.heap H locs) (hl : lv_has ls 2 [(0, .ref h), (1, .int v1)]) : W p l e ({ frames := 2, cells := 0, slots := 0, locals := 42 } : Room) s m args below meth c H locs 0 0 (MQ below (kqi D cy [(h, .inr (5, [.int m_h_bits, .int m_h_unit, .int m_h_offset, .int m_h_lean, .int m_h_ref, .int m_h_top, .ref q_h_misses, .ref q_h_resistors])), (q_h_misses, aI cy 9 m_h_misses)] z A) args s 0 0 A) (F0 m 0 ls []) := by
  obtain ⟨hx, hb, hr, hml, hown, hts, hlk, hK, hA, hN⟩ := id C
  unfold f_X5_weightOf at hf
  refine lv_iconst (v := 0) hx hb dX5_weightOf_0 (by decide) ?_
  refine lv_aload_n hx hb dX5_weightOf_1 rfl (lv_at hl 0 rfl) ?_
  refine lv_iload_n hx hb dX5_weightOf_2 rfl (lv_at hl 1 rfl) ?_
  obtain ⟨z3, hz3, hf⟩ := zb_of hf
  refine goI (wr := [(q_h_misses, aI cy 9 m_h_misses)]) (ws' := [(h, .inr (5, [.int m_h_bits, .int m_h_unit, .int m_h_offset, .int m_h_lean, .int m_h_ref, .int m_h_top, .ref q_h_misses, .ref q_h_resistors])), (q_h_misses, aI cy 9 m_h_misses)]) C (runV (n := 1) (As := [.int v1]) (rest := [.int (0 : Int32)]) C (c_X5_evenWeight l D cy H.size h q_h_misses q_h_resistors v1 m_h_bits m_h_unit m_h_offset m_h_lean m_h_ref m_h_top hz3) ml_X5_64 im_X5_evenWeight se_X5_evenWeight ii_X5 cd_X5_evenWeight hd_X5_evenWeight rfl rfl ⟨Nat.le_of_ble_eq_true rfl, Nat.le_of_ble_eq_true rfl⟩ (hP.sub [0] rfl) (hD.sub [0] (by decide) rfl) rfl rfl rfl hl.1 rfl (Nat.le_of_ble_eq_true rfl) dX5_weightOf_3) hP hD hS [0] [1] [1, 0] rfl rfl (by decide) (by decide) rfl (by decide) (fun H locs hP hD hS => ?_)
  refine lv_aload_n hx hb dX5_weightOf_6 rfl (lv_at hl 0 rfl) ?_
  refine lv_iload_n hx hb dX5_weightOf_7 rfl (lv_at hl 1 rfl) ?_
  obtain ⟨z8, hz8, hf⟩ := zb_of hf
  refine goI (wr := []) (ws' := [(h, .inr (5, [.int m_h_bits, .int m_h_unit, .int m_h_offset, .int m_h_lean, .int m_h_ref, .int m_h_top, .ref q_h_misses, .ref q_h_resistors])), (q_h_misses, aI cy 9 m_h_misses)]) C (runV (n := 1) (As := [.int v1]) (rest := [.int z3, .int (0 : Int32)]) C (c_X5_missOf l D cy H.size h q_h_misses q_h_resistors v1 m_h_bits m_h_unit m_h_offset m_h_lean m_h_ref m_h_top m_h_misses hz8) ml_X5_68 im_X5_missOf se_X5_missOf ii_X5 cd_X5_missOf hd_X5_missOf rfl rfl ⟨Nat.le_of_ble_eq_true rfl, Nat.le_of_ble_eq_true rfl⟩ (hP.sub [0, 1] rfl) (hD.sub [0, 1] (by decide) rfl) rfl rfl rfl hl.1 rfl (Nat.le_of_ble_eq_true rfl) dX5_weightOf_8) hP hD hS [0, 1] [] [0, 1] rfl rfl (by decide) (by decide) rfl (by decide) (fun H locs hP hD hS => ?_)
  refine lv_iadd hx hb dX5_weightOf_11 ?_
  obtain ⟨z12, hz12, hf⟩ := zb_of hf
  refine goI (wr := [(h, .inr (5, [.int m_h_bits, .int m_h_unit, .int m_h_offset, .int m_h_lean, .int m_h_ref, .int m_h_top, .ref q_h_misses, .ref q_h_resistors])), (q_h_misses, aI cy 9 m_h_misses)]) (ws' := [(h, .inr (5, [.int m_h_bits, .int m_h_unit, .int m_h_offset, .int m_h_lean, .int m_h_ref, .int m_h_top, .ref q_h_misses, .ref q_h_resistors])), (q_h_misses, aI cy 9 m_h_misses)]) C (runS (n := 2) (As := [.int (0 : Int32), .int (z3 + z8)]) (rest := []) C (c_J9_max_7cf53 l D cy H.size (0 : Int32) (z3 + z8) hz12) ml_X5_71 st_J9_max_7cf53 ii_J9 cd_J9_max_7cf53 hd_J9_max_7cf53 rfl rfl ⟨Nat.le_of_ble_eq_true rfl, Nat.le_of_ble_eq_true rfl⟩ (hP.sub [] rfl) (hD.sub [] (by decide) rfl) rfl hl.1 rfl (Nat.le_of_ble_eq_true rfl) dX5_weightOf_12) hP hD hS [] [0, 1] [0, 1] rfl rfl (by decide) (by decide) rfl (by decide) (fun H locs hP hD hS => ?_)
  obtain rfl := Option.some.inj hf
  exact ret_i C hP hD hS dX5_weightOf_15
set_option maxRecDepth 100000 in
theorem c_X5_weightOf (l : Launch) (D : va_G) (cy : Nat → ClassId) (sz : Nat) (h q_h_misses q_h_resistors : Nat) (v1 : Int32) (m_h_bits : Int32) (m_h_unit : Int32) (m_h_offset : Int32) (m_h_lean : Int32) (m_h_ref : Int32) (m_h_top : Int32) (m_h_misses : Nat → Int32) {z : Int32} (hf : f_X5_weightOf v1 m_h_bits m_h_unit m_h_top m_h_misses = some z) : Met l yX5_weightOf (.code yX5_weightOf cX5_weightOf 2 (some .int) :: tb) ({ frames := 2, cells := 0, slots := 0, locals := 42 } : Room) (kp D cy sz [.ref h, .int v1] [(h, .inr (5, [.int m_h_bits, .int m_h_unit, .int m_h_offset, .int m_h_lean, .int m_h_ref, .int m_h_top, .ref q_h_misses, .ref q_h_resistors])), (q_h_misses, aI cy 9 m_h_misses)]) (kqi D cy [(h, .inr (5, [.int m_h_bits, .int m_h_unit, .int m_h_offset, .int m_h_lean, .int m_h_ref, .int m_h_top, .ref q_h_misses, .ref q_h_resistors])), (q_h_misses, aI cy 9 m_h_misses)] z (va_A [(h, .inr (5, [.int m_h_bits, .int m_h_unit, .int m_h_offset, .int m_h_lean, .int m_h_ref, .int m_h_top, .ref q_h_misses, .ref q_h_resistors])), (q_h_misses, aI cy 9 m_h_misses)] sz)) 0 0 (va_A [(h, .inr (5, [.int m_h_bits, .int m_h_unit, .int m_h_offset, .int m_h_lean, .int m_h_ref, .int m_h_top, .ref q_h_misses, .ref q_h_resistors])), (q_h_misses, aI cy 9 m_h_misses)] sz) :=
  met_of (fun A => kqi D cy [(h, .inr (5, [.int m_h_bits, .int m_h_unit, .int m_h_offset, .int m_h_lean, .int m_h_ref, .int m_h_top, .ref q_h_misses, .ref q_h_resistors])), (q_h_misses, aI cy 9 m_h_misses)] z A) (by decide +kernel) (Nat.le_of_ble_eq_true rfl) (fun p e s m below meth c A ls C hP hD hS hl => k_X5_weightOf C hf hP hD hS hl)
theorem hd_X5_weightOf : yX5_weightOf.cls ≠ "java/lang/invoke/MethodHandle" ∧ yX5_weightOf.cls ≠ "java/lang/invoke/VarHandle" ∧ (parseMethodDescriptor yX5_weightOf.desc).map (fun d => d.parameters.length) = some 1 := by decide +kernel
def f_X5_takesPart_J42 (v1 : Int32) (v2 : Int32) : Option (Int32) :=
  if ((v1 >>> (v2 &&& 31)) &&& (1 : Int32)) = (1 : Int32) then
    some (1 : Int32)
  else
    some (0 : Int32)
set_option maxHeartbeats 4000000 in
set_option maxRecDepth 100000 in
theorem k_X5_takesPart_J42 {h q_h_misses q_h_resistors : Nat} {v1 : Int32} {v2 : Int32} {m_h_bits : Int32} {m_h_unit : Int32} {m_h_offset : Int32} {m_h_lean : Int32} {m_h_ref : Int32} {m_h_top : Int32} {z : Int32} (C : cx p s m args meth c cX5_takesPart 3 (some .boolean) RX5 D cy A) (hf : f_X5_takesPart_J42 v1 v2 = some z) (hP : va_P D vwCl [(h, .inr (5, [.int m_h_bits, .int m_h_unit, .int m_h_offset, .int m_h_lean, .int m_h_ref, .int m_h_top, .ref q_h_misses, .ref q_h_resistors]))] H) (hD : va_D A [(h, .inr (5, [.int m_h_bits, .int m_h_unit, .int m_h_offset, .int m_h_lean, .int m_h_ref, .int m_h_top, .ref q_h_misses, .ref q_h_resistors]))]) (hS : va_S A s.heap H locs) (hl : lv_has ls 3 [(1, .int v1), (2, .int v2)]) : W p l e ({ frames := 0, cells := 0, slots := 0, locals := 0 } : Room) s m args below meth c H locs 0 0 (MQ below (kqz D cy [(h, .inr (5, [.int m_h_bits, .int m_h_unit, .int m_h_offset, .int m_h_lean, .int m_h_ref, .int m_h_top, .ref q_h_misses, .ref q_h_resistors]))] z A) args s 0 0 A) (F0 m 42 ls []) := by
  obtain ⟨hx, hb, hr, hml, hown, hts, hlk, hK, hA, hN⟩ := id C
  unfold f_X5_takesPart_J42 at hf
  refine lv_iload_n hx hb dX5_takesPart_42 rfl (lv_at hl 0 rfl) ?_
  refine lv_iload_n hx hb dX5_takesPart_43 rfl (lv_at hl 1 rfl) ?_
  refine lv_ishr hx hb dX5_takesPart_44 ?_
  refine lv_iconst (v := 1) hx hb dX5_takesPart_45 (by decide) ?_
  refine lv_iand hx hb dX5_takesPart_46 ?_
  refine lv_iconst (v := 1) hx hb dX5_takesPart_47 (by decide) ?_
  refine lv_icmp_ne (tgt := 55) hx hb dX5_takesPart_48 (by decide) (fun c48 => ?_) (fun c48 => ?_)
  · have hf := zf c48 hf
    refine lv_iconst (v := 0) hx hb dX5_takesPart_55 (by decide) ?_
    obtain rfl := Option.some.inj hf
    exact ret_z C rfl hP hD hS dX5_takesPart_56
  · have hf := zt c48 hf
    refine lv_iconst (v := 1) hx hb dX5_takesPart_51 (by decide) ?_
    refine lv_goto (tgt := 56) hx hb dX5_takesPart_52 (by decide) ?_
    obtain rfl := Option.some.inj hf
    exact ret_z C rfl hP hD hS dX5_takesPart_56
def f_X5_takesPart (v1 : Int32) (v2 : Int32) (m_h_bits : Int32) (m_h_top : Int32) : Option (Int32) :=
  if m_h_top = 0 then
    f_X5_takesPart_J42 v1 v2
  else
    if v2 < (m_h_bits - (2 : Int32)) then
      f_X5_takesPart_J42 v1 v2
    else
      if (v1 >>> ((m_h_bits - (2 : Int32)) &&& 31)) ≤ (v2 - (m_h_bits - (2 : Int32))) then
        some (0 : Int32)
      else
        some (1 : Int32)
set_option maxHeartbeats 4000000 in
set_option maxRecDepth 100000 in
theorem k_X5_takesPart {h q_h_misses q_h_resistors : Nat} {v1 : Int32} {v2 : Int32} {m_h_bits : Int32} {m_h_unit : Int32} {m_h_offset : Int32} {m_h_lean : Int32} {m_h_ref : Int32} {m_h_top : Int32} {z : Int32} (C : cx p s m args meth c cX5_takesPart 3 (some .boolean) RX5 D cy A) (hf : f_X5_takesPart v1 v2 m_h_bits m_h_top = some z) (hP : va_P D vwCl [(h, .inr (5, [.int m_h_bits, .int m_h_unit, .int m_h_offset, .int m_h_lean, .int m_h_ref, .int m_h_top, .ref q_h_misses, .ref q_h_resistors]))] H) (hD : va_D A [(h, .inr (5, [.int m_h_bits, .int m_h_unit, .int m_h_offset, .int m_h_lean, .int m_h_ref, .int m_h_top, .ref q_h_misses, .ref q_h_resistors]))]) (hS : va_S A s.heap H locs) (hl : lv_has ls 3 [(0, .ref h), (1, .int v1), (2, .int v2)]) : W p l e ({ frames := 0, cells := 0, slots := 0, locals := 0 } : Room) s m args below meth c H locs 0 0 (MQ below (kqz D cy [(h, .inr (5, [.int m_h_bits, .int m_h_unit, .int m_h_offset, .int m_h_lean, .int m_h_ref, .int m_h_top, .ref q_h_misses, .ref q_h_resistors]))] z A) args s 0 0 A) (F0 m 0 ls []) := by
  obtain ⟨hx, hb, hr, hml, hown, hts, hlk, hK, hA, hN⟩ := id C
  unfold f_X5_takesPart at hf
  refine lv_aload_n hx hb dX5_takesPart_0 rfl (lv_at hl 0 rfl) ?_
  refine va_get (D := D) (ci := 5) (v := .int m_h_top) (C := RX5) (T := TX5) (N := 8) hx hb hts ui_X5 hown hK hP 0 rfl rfl 5 (by decide) (hts _ fl_X5_35) (fun _ h9 => h9) rfl dX5_takesPart_1 ?_
  refine lv_if_eq (tgt := 42) hx hb dX5_takesPart_4 (by decide) (fun c4 => ?_) (fun c4 => ?_)
  · have hf := zt c4 hf
    exact k_X5_takesPart_J42 C hf hP hD hS (lv_sub hl [1, 2] rfl)
  · have hf := zf c4 hf
    refine lv_iload_n hx hb dX5_takesPart_7 rfl (lv_at hl 2 rfl) ?_
    refine lv_aload_n hx hb dX5_takesPart_8 rfl (lv_at hl 0 rfl) ?_
    refine va_get (D := D) (ci := 5) (v := .int m_h_bits) (C := RX5) (T := TX5) (N := 8) hx hb hts ui_X5 hown hK hP 0 rfl rfl 0 (by decide) (hts _ fl_X5_19) (fun _ h9 => h9) rfl dX5_takesPart_9 ?_
    refine lv_iconst (v := 2) hx hb dX5_takesPart_12 (by decide) ?_
    refine lv_isub hx hb dX5_takesPart_13 ?_
    refine lv_icmp_lt (tgt := 42) hx hb dX5_takesPart_14 (by decide) (fun c14 => ?_) (fun c14 => ?_)
    · have hf := zt c14 hf
      exact k_X5_takesPart_J42 C hf hP hD hS (lv_sub hl [1, 2] rfl)
    · have hf := zf c14 hf
      refine lv_iload_n hx hb dX5_takesPart_17 rfl (lv_at hl 1 rfl) ?_
      refine lv_aload_n hx hb dX5_takesPart_18 rfl (lv_at hl 0 rfl) ?_
      refine va_get (D := D) (ci := 5) (v := .int m_h_bits) (C := RX5) (T := TX5) (N := 8) hx hb hts ui_X5 hown hK hP 0 rfl rfl 0 (by decide) (hts _ fl_X5_19) (fun _ h9 => h9) rfl dX5_takesPart_19 ?_
      refine lv_iconst (v := 2) hx hb dX5_takesPart_22 (by decide) ?_
      refine lv_isub hx hb dX5_takesPart_23 ?_
      refine lv_ishr hx hb dX5_takesPart_24 ?_
      refine lv_iload_n hx hb dX5_takesPart_25 rfl (lv_at hl 2 rfl) ?_
      refine lv_aload_n hx hb dX5_takesPart_26 rfl (lv_at hl 0 rfl) ?_
      refine va_get (D := D) (ci := 5) (v := .int m_h_bits) (C := RX5) (T := TX5) (N := 8) hx hb hts ui_X5 hown hK hP 0 rfl rfl 0 (by decide) (hts _ fl_X5_19) (fun _ h9 => h9) rfl dX5_takesPart_27 ?_
      refine lv_iconst (v := 2) hx hb dX5_takesPart_30 (by decide) ?_
      refine lv_isub hx hb dX5_takesPart_31 ?_
      refine lv_isub hx hb dX5_takesPart_32 ?_
      refine lv_icmp_le (tgt := 40) hx hb dX5_takesPart_33 (by decide) (fun c33 => ?_) (fun c33 => ?_)
      · have hf := zt c33 hf
        refine lv_iconst (v := 0) hx hb dX5_takesPart_40 (by decide) ?_
        obtain rfl := Option.some.inj hf
        exact ret_z C rfl hP hD hS dX5_takesPart_41
      · have hf := zf c33 hf
        refine lv_iconst (v := 1) hx hb dX5_takesPart_36 (by decide) ?_
        refine lv_goto (tgt := 41) hx hb dX5_takesPart_37 (by decide) ?_
        obtain rfl := Option.some.inj hf
        exact ret_z C rfl hP hD hS dX5_takesPart_41
set_option maxRecDepth 100000 in
theorem c_X5_takesPart (l : Launch) (D : va_G) (cy : Nat → ClassId) (sz : Nat) (h q_h_misses q_h_resistors : Nat) (v1 : Int32) (v2 : Int32) (m_h_bits : Int32) (m_h_unit : Int32) (m_h_offset : Int32) (m_h_lean : Int32) (m_h_ref : Int32) (m_h_top : Int32) {z : Int32} (hf : f_X5_takesPart v1 v2 m_h_bits m_h_top = some z) : Met l yX5_takesPart (.code yX5_takesPart cX5_takesPart 3 (some .boolean) :: tb) ({ frames := 0, cells := 0, slots := 0, locals := 0 } : Room) (kp D cy sz [.ref h, .int v1, .int v2] [(h, .inr (5, [.int m_h_bits, .int m_h_unit, .int m_h_offset, .int m_h_lean, .int m_h_ref, .int m_h_top, .ref q_h_misses, .ref q_h_resistors]))]) (kqz D cy [(h, .inr (5, [.int m_h_bits, .int m_h_unit, .int m_h_offset, .int m_h_lean, .int m_h_ref, .int m_h_top, .ref q_h_misses, .ref q_h_resistors]))] z (va_A [(h, .inr (5, [.int m_h_bits, .int m_h_unit, .int m_h_offset, .int m_h_lean, .int m_h_ref, .int m_h_top, .ref q_h_misses, .ref q_h_resistors]))] sz)) 0 0 (va_A [(h, .inr (5, [.int m_h_bits, .int m_h_unit, .int m_h_offset, .int m_h_lean, .int m_h_ref, .int m_h_top, .ref q_h_misses, .ref q_h_resistors]))] sz) :=
  met_of (fun A => kqz D cy [(h, .inr (5, [.int m_h_bits, .int m_h_unit, .int m_h_offset, .int m_h_lean, .int m_h_ref, .int m_h_top, .ref q_h_misses, .ref q_h_resistors]))] z A) (by decide +kernel) (Nat.le_of_ble_eq_true rfl) (fun p e s m below meth c A ls C hP hD hS hl => k_X5_takesPart C hf hP hD hS hl)
theorem hd_X5_takesPart : yX5_takesPart.cls ≠ "java/lang/invoke/MethodHandle" ∧ yX5_takesPart.cls ≠ "java/lang/invoke/VarHandle" ∧ (parseMethodDescriptor yX5_takesPart.desc).map (fun d => d.parameters.length) = some 2 := by decide +kernel
def f_X8_sumOf_J50_19 (v2 : Int32) (v4 : Int32) : Option (Nat × (Int32 × Int32)) :=
  zl (v4 + (1 : Int32)) fun x50 =>
  some (0, (v2, x50))
set_option maxHeartbeats 4000000 in
set_option maxRecDepth 100000 in
theorem k_X8_sumOf_J50_19 {h q_h_rules q_h_outs q_h_span q_h_rules_misses q_h_rules_resistors : Nat} {v1 : Int32} {v2 : Int32} {v3 : Int32} {v4 : Int32} {m_h_rules_bits : Int32} {m_h_rules_unit : Int32} {m_h_rules_offset : Int32} {m_h_rules_lean : Int32} {m_h_rules_ref : Int32} {m_h_rules_top : Int32} {m_h_rules_misses : Nat → Int32} {z : Nat × (Int32 × Int32)} (C : cx p s m args meth c cX8_sumOf 5 (some .int) RX8 D cy A) (hf : f_X8_sumOf_J50_19 v2 v4 = some z) (hP : va_P D vwCl [(h, .inr (8, [.ref q_h_rules, .ref q_h_outs, .ref q_h_span])), (q_h_rules, .inr (5, [.int m_h_rules_bits, .int m_h_rules_unit, .int m_h_rules_offset, .int m_h_rules_lean, .int m_h_rules_ref, .int m_h_rules_top, .ref q_h_rules_misses, .ref q_h_rules_resistors])), (q_h_rules_misses, aI cy 9 m_h_rules_misses)] H) (hD : va_D A [(h, .inr (8, [.ref q_h_rules, .ref q_h_outs, .ref q_h_span])), (q_h_rules, .inr (5, [.int m_h_rules_bits, .int m_h_rules_unit, .int m_h_rules_offset, .int m_h_rules_lean, .int m_h_rules_ref, .int m_h_rules_top, .ref q_h_rules_misses, .ref q_h_rules_resistors])), (q_h_rules_misses, aI cy 9 m_h_rules_misses)]) (hS : va_S A s.heap H locs) (hl : lv_has ls 5 [(0, .ref h), (1, .int v1), (2, .int v2), (3, .int v3), (4, .int v4)]) (hE0 : ∀ (H : Heap) (locs : List Loc) (ls : Array Slot), z.1 = 0 → va_P D vwCl [(h, .inr (8, [.ref q_h_rules, .ref q_h_outs, .ref q_h_span])), (q_h_rules, .inr (5, [.int m_h_rules_bits, .int m_h_rules_unit, .int m_h_rules_offset, .int m_h_rules_lean, .int m_h_rules_ref, .int m_h_rules_top, .ref q_h_rules_misses, .ref q_h_rules_resistors])), (q_h_rules_misses, aI cy 9 m_h_rules_misses)] H → va_D A [(h, .inr (8, [.ref q_h_rules, .ref q_h_outs, .ref q_h_span])), (q_h_rules, .inr (5, [.int m_h_rules_bits, .int m_h_rules_unit, .int m_h_rules_offset, .int m_h_rules_lean, .int m_h_rules_ref, .int m_h_rules_top, .ref q_h_rules_misses, .ref q_h_rules_resistors])), (q_h_rules_misses, aI cy 9 m_h_rules_misses)] → va_S A s.heap H locs → lv_has ls 5 [(0, .ref h), (1, .int v1), (2, .int z.2.1), (3, .int v3), (4, .int z.2.2)] → W p l e ({ frames := 3, cells := 0, slots := 0, locals := 63 } : Room) s m args below meth c H locs 0 0 Q (F0 m 19 ls [])) (hE1 : ∀ (H : Heap) (locs : List Loc) (ls : Array Slot), z.1 = 1 → va_P D vwCl [(h, .inr (8, [.ref q_h_rules, .ref q_h_outs, .ref q_h_span])), (q_h_rules, .inr (5, [.int m_h_rules_bits, .int m_h_rules_unit, .int m_h_rules_offset, .int m_h_rules_lean, .int m_h_rules_ref, .int m_h_rules_top, .ref q_h_rules_misses, .ref q_h_rules_resistors])), (q_h_rules_misses, aI cy 9 m_h_rules_misses)] H → va_D A [(h, .inr (8, [.ref q_h_rules, .ref q_h_outs, .ref q_h_span])), (q_h_rules, .inr (5, [.int m_h_rules_bits, .int m_h_rules_unit, .int m_h_rules_offset, .int m_h_rules_lean, .int m_h_rules_ref, .int m_h_rules_top, .ref q_h_rules_misses, .ref q_h_rules_resistors])), (q_h_rules_misses, aI cy 9 m_h_rules_misses)] → va_S A s.heap H locs → lv_has ls 5 [(2, .int z.2.1)] → W p l e ({ frames := 3, cells := 0, slots := 0, locals := 63 } : Room) s m args below meth c H locs 0 0 Q (F0 m 56 ls [])) : W p l e ({ frames := 3, cells := 0, slots := 0, locals := 63 } : Room) s m args below meth c H locs 0 0 Q (F0 m 50 ls []) := by
  obtain ⟨hx, hb, hr, hml, hown, hts, hlk, hK, hA, hN⟩ := id C
  unfold f_X8_sumOf_J50_19 at hf
  obtain ⟨x50, ex50⟩ : ∃ y : Int32, y = v4 + (1 : Int32) := ⟨_, rfl⟩
  have hf := zl_of hf x50 ex50
  refine lv_iinc (v := x50) (lv' := [(4, .int x50), (0, .ref h), (1, .int v1), (2, .int v2), (3, .int v3)]) hx hb dX8_sumOf_50 hl (k := 4) rfl (by rw [ex50]; rfl) (by decide) rfl (fun ls hl => ?_)
  refine lv_goto (tgt := 19) hx hb dX8_sumOf_53 (by decide) ?_
  obtain rfl := Option.some.inj hf
  exact hE0 _ _ _ rfl hP hD hS (lv_sub hl [1, 2, 3, 4, 0] rfl)
def f_X8_sumOf_L19 (v1 : Int32) (v3 : Int32) (m_h_rules_bits : Int32) (m_h_rules_unit : Int32) (m_h_rules_top : Int32) (m_h_rules_misses : Nat → Int32) (w : Int32 × Int32) : Option (Nat × (Int32 × Int32)) :=
  if v3 ≤ w.2 then
    some (1, (w.1, w.2))
  else
    zb (f_X5_takesPart v1 w.2 m_h_rules_bits m_h_rules_top) fun z32 =>
    if z32 = 0 then
      f_X8_sumOf_J50_19 w.1 w.2
    else
      zb (f_X5_weightOf w.2 m_h_rules_bits m_h_rules_unit m_h_rules_top m_h_rules_misses) fun z45 =>
      zl (w.1 + z45) fun x49 =>
      f_X8_sumOf_J50_19 x49 w.2
set_option maxHeartbeats 4000000 in
set_option maxRecDepth 100000 in
theorem k_X8_sumOf_L19 {h q_h_rules q_h_outs q_h_span q_h_rules_misses q_h_rules_resistors : Nat} {v1 : Int32} {v3 : Int32} {m_h_rules_bits : Int32} {m_h_rules_unit : Int32} {m_h_rules_offset : Int32} {m_h_rules_lean : Int32} {m_h_rules_ref : Int32} {m_h_rules_top : Int32} {m_h_rules_misses : Nat → Int32} {w : Int32 × Int32} {z : Nat × (Int32 × Int32)} (C : cx p s m args meth c cX8_sumOf 5 (some .int) RX8 D cy A) (hf : f_X8_sumOf_L19 v1 v3 m_h_rules_bits m_h_rules_unit m_h_rules_top m_h_rules_misses w = some z) (hP : va_P D vwCl [(h, .inr (8, [.ref q_h_rules, .ref q_h_outs, .ref q_h_span])), (q_h_rules, .inr (5, [.int m_h_rules_bits, .int m_h_rules_unit, .int m_h_rules_offset, .int m_h_rules_lean, .int m_h_rules_ref, .int m_h_rules_top, .ref q_h_rules_misses, .ref q_h_rules_resistors])), (q_h_rules_misses, aI cy 9 m_h_rules_misses)] H) (hD : va_D A [(h, .inr (8, [.ref q_h_rules, .ref q_h_outs, .ref q_h_span])), (q_h_rules, .inr (5, [.int m_h_rules_bits, .int m_h_rules_unit, .int m_h_rules_offset, .int m_h_rules_lean, .int m_h_rules_ref, .int m_h_rules_top, .ref q_h_rules_misses, .ref q_h_rules_resistors])), (q_h_rules_misses, aI cy 9 m_h_rules_misses)]) (hS : va_S A s.heap H locs) (hl : lv_has ls 5 [(0, .ref h), (1, .int v1), (2, .int w.1), (3, .int v3), (4, .int w.2)]) (hE0 : ∀ (H : Heap) (locs : List Loc) (ls : Array Slot), z.1 = 0 → va_P D vwCl [(h, .inr (8, [.ref q_h_rules, .ref q_h_outs, .ref q_h_span])), (q_h_rules, .inr (5, [.int m_h_rules_bits, .int m_h_rules_unit, .int m_h_rules_offset, .int m_h_rules_lean, .int m_h_rules_ref, .int m_h_rules_top, .ref q_h_rules_misses, .ref q_h_rules_resistors])), (q_h_rules_misses, aI cy 9 m_h_rules_misses)] H → va_D A [(h, .inr (8, [.ref q_h_rules, .ref q_h_outs, .ref q_h_span])), (q_h_rules, .inr (5, [.int m_h_rules_bits, .int m_h_rules_unit, .int m_h_rules_offset, .int m_h_rules_lean, .int m_h_rules_ref, .int m_h_rules_top, .ref q_h_rules_misses, .ref q_h_rules_resistors])), (q_h_rules_misses, aI cy 9 m_h_rules_misses)] → va_S A s.heap H locs → lv_has ls 5 [(0, .ref h), (1, .int v1), (2, .int z.2.1), (3, .int v3), (4, .int z.2.2)] → W p l e ({ frames := 3, cells := 0, slots := 0, locals := 63 } : Room) s m args below meth c H locs 0 0 Q (F0 m 19 ls [])) (hE1 : ∀ (H : Heap) (locs : List Loc) (ls : Array Slot), z.1 = 1 → va_P D vwCl [(h, .inr (8, [.ref q_h_rules, .ref q_h_outs, .ref q_h_span])), (q_h_rules, .inr (5, [.int m_h_rules_bits, .int m_h_rules_unit, .int m_h_rules_offset, .int m_h_rules_lean, .int m_h_rules_ref, .int m_h_rules_top, .ref q_h_rules_misses, .ref q_h_rules_resistors])), (q_h_rules_misses, aI cy 9 m_h_rules_misses)] H → va_D A [(h, .inr (8, [.ref q_h_rules, .ref q_h_outs, .ref q_h_span])), (q_h_rules, .inr (5, [.int m_h_rules_bits, .int m_h_rules_unit, .int m_h_rules_offset, .int m_h_rules_lean, .int m_h_rules_ref, .int m_h_rules_top, .ref q_h_rules_misses, .ref q_h_rules_resistors])), (q_h_rules_misses, aI cy 9 m_h_rules_misses)] → va_S A s.heap H locs → lv_has ls 5 [(2, .int z.2.1)] → W p l e ({ frames := 3, cells := 0, slots := 0, locals := 63 } : Room) s m args below meth c H locs 0 0 Q (F0 m 56 ls [])) : W p l e ({ frames := 3, cells := 0, slots := 0, locals := 63 } : Room) s m args below meth c H locs 0 0 Q (F0 m 19 ls []) := by
  obtain ⟨hx, hb, hr, hml, hown, hts, hlk, hK, hA, hN⟩ := id C
  unfold f_X8_sumOf_L19 at hf
  refine lv_iload hx hb dX8_sumOf_19 (lv_at hl 4 rfl) ?_
  refine lv_iload_n hx hb dX8_sumOf_21 rfl (lv_at hl 3 rfl) ?_
  refine lv_icmp_ge (tgt := 56) hx hb dX8_sumOf_22 (by decide) (fun c22 => ?_) (fun c22 => ?_)
  · have hf := zt c22 hf
    obtain rfl := Option.some.inj hf
    exact hE1 _ _ _ rfl hP hD hS (lv_sub hl [2] rfl)
  · have hf := zf c22 hf
    refine lv_aload_n hx hb dX8_sumOf_25 rfl (lv_at hl 0 rfl) ?_
    refine va_get (D := D) (ci := 8) (v := .ref q_h_rules) (C := RX8) (T := TX8) (N := 3) hx hb hts ui_X8 hown hK hP 0 rfl rfl 0 (by decide) (hts _ fl_X8_22) (fun _ h9 => h9) rfl dX8_sumOf_26 ?_
    refine lv_iload_n hx hb dX8_sumOf_29 rfl (lv_at hl 1 rfl) ?_
    refine lv_iload hx hb dX8_sumOf_30 (lv_at hl 4 rfl) ?_
    obtain ⟨z32, hz32, hf⟩ := zb_of hf
    refine goZ (wr := [(h, .inr (8, [.ref q_h_rules, .ref q_h_outs, .ref q_h_span])), (q_h_rules_misses, aI cy 9 m_h_rules_misses)]) (ws' := [(h, .inr (8, [.ref q_h_rules, .ref q_h_outs, .ref q_h_span])), (q_h_rules, .inr (5, [.int m_h_rules_bits, .int m_h_rules_unit, .int m_h_rules_offset, .int m_h_rules_lean, .int m_h_rules_ref, .int m_h_rules_top, .ref q_h_rules_misses, .ref q_h_rules_resistors])), (q_h_rules_misses, aI cy 9 m_h_rules_misses)]) C (runV (n := 2) (As := [.int v1, .int w.2]) (rest := []) C (c_X5_takesPart l D cy H.size q_h_rules q_h_rules_misses q_h_rules_resistors v1 w.2 m_h_rules_bits m_h_rules_unit m_h_rules_offset m_h_rules_lean m_h_rules_ref m_h_rules_top hz32) ml_X8_46 im_X5_takesPart se_X5_takesPart ii_X5 cd_X5_takesPart hd_X5_takesPart rfl rfl ⟨Nat.le_of_ble_eq_true rfl, Nat.le_of_ble_eq_true rfl⟩ (hP.sub [1] rfl) (hD.sub [1] (by decide) rfl) rfl rfl rfl hl.1 rfl (Nat.le_of_ble_eq_true rfl) dX8_sumOf_32) hP hD hS [1] [0, 2] [0, 2, 1] rfl rfl (by decide) (by decide) rfl (by decide) (fun H locs n32 hP hD hS => ?_)
    refine lv_if_eq (tgt := 50) hx hb dX8_sumOf_35 (by decide) (fun c35 => ?_) (fun c35 => ?_)
    · have hf := zt c35 hf
      exact k_X8_sumOf_J50_19 C hf hP hD hS (lv_sub hl [0, 1, 2, 3, 4] rfl) hE0 hE1
    · have hf := zf c35 hf
      refine lv_iload_n hx hb dX8_sumOf_38 rfl (lv_at hl 2 rfl) ?_
      refine lv_aload_n hx hb dX8_sumOf_39 rfl (lv_at hl 0 rfl) ?_
      refine va_get (D := D) (ci := 8) (v := .ref q_h_rules) (C := RX8) (T := TX8) (N := 3) hx hb hts ui_X8 hown hK hP 0 rfl rfl 0 (by decide) (hts _ fl_X8_22) (fun _ h9 => h9) rfl dX8_sumOf_40 ?_
      refine lv_iload hx hb dX8_sumOf_43 (lv_at hl 4 rfl) ?_
      obtain ⟨z45, hz45, hf⟩ := zb_of hf
      refine goI (wr := [(h, .inr (8, [.ref q_h_rules, .ref q_h_outs, .ref q_h_span]))]) (ws' := [(h, .inr (8, [.ref q_h_rules, .ref q_h_outs, .ref q_h_span])), (q_h_rules, .inr (5, [.int m_h_rules_bits, .int m_h_rules_unit, .int m_h_rules_offset, .int m_h_rules_lean, .int m_h_rules_ref, .int m_h_rules_top, .ref q_h_rules_misses, .ref q_h_rules_resistors])), (q_h_rules_misses, aI cy 9 m_h_rules_misses)]) C (runV (n := 1) (As := [.int w.2]) (rest := [.int w.1]) C (c_X5_weightOf l D cy H.size q_h_rules q_h_rules_misses q_h_rules_resistors w.2 m_h_rules_bits m_h_rules_unit m_h_rules_offset m_h_rules_lean m_h_rules_ref m_h_rules_top m_h_rules_misses hz45) ml_X8_50 im_X5_weightOf se_X5_weightOf ii_X5 cd_X5_weightOf hd_X5_weightOf rfl rfl ⟨Nat.le_of_ble_eq_true rfl, Nat.le_of_ble_eq_true rfl⟩ (hP.sub [1, 2] rfl) (hD.sub [1, 2] (by decide) rfl) rfl rfl rfl hl.1 rfl (Nat.le_of_ble_eq_true rfl) dX8_sumOf_45) hP hD hS [1, 2] [0] [0, 1, 2] rfl rfl (by decide) (by decide) rfl (by decide) (fun H locs hP hD hS => ?_)
      refine lv_iadd hx hb dX8_sumOf_48 ?_
      refine lv_topi (fun x49 ex49 => ?_)
      have hf := zl_of hf x49 ex49
      refine lv_istore_n (lv' := [(2, .int x49), (0, .ref h), (1, .int v1), (3, .int v3), (4, .int w.2)]) hx hb dX8_sumOf_49 rfl hl (by decide) rfl (fun ls hl => ?_)
      exact k_X8_sumOf_J50_19 C hf hP hD hS (lv_sub hl [1, 2, 0, 3, 4] rfl) hE0 hE1
set_option maxHeartbeats 4000000 in
set_option maxRecDepth 100000 in
theorem kl_X8_sumOf_L19 {h q_h_rules q_h_outs q_h_span q_h_rules_misses q_h_rules_resistors : Nat} {v1 : Int32} {v3 : Int32} {m_h_rules_bits : Int32} {m_h_rules_unit : Int32} {m_h_rules_offset : Int32} {m_h_rules_lean : Int32} {m_h_rules_ref : Int32} {m_h_rules_top : Int32} {m_h_rules_misses : Nat → Int32} (C : cx p s m args meth c cX8_sumOf 5 (some .int) RX8 D cy A) : ∀ (n : Nat) (w : Int32 × Int32) (z : Nat × (Int32 × Int32)) (H : Heap) (locs : List Loc) (ls : Array Slot), zp (f_X8_sumOf_L19 v1 v3 m_h_rules_bits m_h_rules_unit m_h_rules_top m_h_rules_misses) n w = some z → va_P D vwCl [(h, .inr (8, [.ref q_h_rules, .ref q_h_outs, .ref q_h_span])), (q_h_rules, .inr (5, [.int m_h_rules_bits, .int m_h_rules_unit, .int m_h_rules_offset, .int m_h_rules_lean, .int m_h_rules_ref, .int m_h_rules_top, .ref q_h_rules_misses, .ref q_h_rules_resistors])), (q_h_rules_misses, aI cy 9 m_h_rules_misses)] H → va_D A [(h, .inr (8, [.ref q_h_rules, .ref q_h_outs, .ref q_h_span])), (q_h_rules, .inr (5, [.int m_h_rules_bits, .int m_h_rules_unit, .int m_h_rules_offset, .int m_h_rules_lean, .int m_h_rules_ref, .int m_h_rules_top, .ref q_h_rules_misses, .ref q_h_rules_resistors])), (q_h_rules_misses, aI cy 9 m_h_rules_misses)] → va_S A s.heap H locs → lv_has ls 5 [(0, .ref h), (1, .int v1), (2, .int w.1), (3, .int v3), (4, .int w.2)] → (∀ (H : Heap) (locs : List Loc) (ls : Array Slot), z.1 = 1 → va_P D vwCl [(h, .inr (8, [.ref q_h_rules, .ref q_h_outs, .ref q_h_span])), (q_h_rules, .inr (5, [.int m_h_rules_bits, .int m_h_rules_unit, .int m_h_rules_offset, .int m_h_rules_lean, .int m_h_rules_ref, .int m_h_rules_top, .ref q_h_rules_misses, .ref q_h_rules_resistors])), (q_h_rules_misses, aI cy 9 m_h_rules_misses)] H → va_D A [(h, .inr (8, [.ref q_h_rules, .ref q_h_outs, .ref q_h_span])), (q_h_rules, .inr (5, [.int m_h_rules_bits, .int m_h_rules_unit, .int m_h_rules_offset, .int m_h_rules_lean, .int m_h_rules_ref, .int m_h_rules_top, .ref q_h_rules_misses, .ref q_h_rules_resistors])), (q_h_rules_misses, aI cy 9 m_h_rules_misses)] → va_S A s.heap H locs → lv_has ls 5 [(2, .int z.2.1)] → W p l e ({ frames := 3, cells := 0, slots := 0, locals := 63 } : Room) s m args below meth c H locs 0 0 Q (F0 m 56 ls [])) → W p l e ({ frames := 3, cells := 0, slots := 0, locals := 63 } : Room) s m args below meth c H locs 0 0 Q (F0 m 19 ls []) := by
  intro n
  induction n with
  | zero => intro w z H locs ls hf; cases hf
  | succ n ih =>
    intro w z H locs ls hf hP hD hS hl hE1
    obtain ⟨w1, hw, hd⟩ := zp_s hf
    refine k_X8_sumOf_L19 C hw hP hD hS hl (fun H locs ls h0 hP hD hS hl => ?_) (fun H locs ls h0 hP hD hS hl => ?_)
    · rcases hd with ⟨_, h⟩ | ⟨h, _⟩
      · exact ih _ _ _ _ _ h hP hD hS hl hE1
      · exact absurd h0 h
    · rcases hd with ⟨h, _⟩ | ⟨_, h⟩
      · exact absurd (h.symm.trans h0) (by decide)
      · subst h; exact hE1 _ _ _ h0 hP hD hS hl
def f_X8_sumOf (v1 : Int32) (m_h_rules_bits : Int32) (m_h_rules_unit : Int32) (m_h_rules_offset : Int32) (m_h_rules_top : Int32) (m_h_rules_misses : Nat → Int32) : Option (Int32) :=
  zb (f_X5_parts m_h_rules_bits m_h_rules_top) fun z12 =>
  zb (zp (f_X8_sumOf_L19 v1 z12 m_h_rules_bits m_h_rules_unit m_h_rules_top m_h_rules_misses) zF (m_h_rules_offset, (0 : Int32))) fun z19 =>
  some z19.2.1
set_option maxHeartbeats 4000000 in
set_option maxRecDepth 100000 in
theorem k_X8_sumOf {h q_h_rules q_h_outs q_h_span q_h_rules_misses q_h_rules_resistors : Nat} {v1 : Int32} {m_h_rules_bits : Int32} {m_h_rules_unit : Int32} {m_h_rules_offset : Int32} {m_h_rules_lean : Int32} {m_h_rules_ref : Int32} {m_h_rules_top : Int32} {m_h_rules_misses : Nat → Int32} {z : Int32} (C : cx p s m args meth c cX8_sumOf 5 (some .int) RX8 D cy A) (hf : f_X8_sumOf v1 m_h_rules_bits m_h_rules_unit m_h_rules_offset m_h_rules_top m_h_rules_misses = some z) (hP : va_P D vwCl [(h, .inr (8, [.ref q_h_rules, .ref q_h_outs, .ref q_h_span])), (q_h_rules, .inr (5, [.int m_h_rules_bits, .int m_h_rules_unit, .int m_h_rules_offset, .int m_h_rules_lean, .int m_h_rules_ref, .int m_h_rules_top, .ref q_h_rules_misses, .ref q_h_rules_resistors])), (q_h_rules_misses, aI cy 9 m_h_rules_misses)] H) (hD : va_D A [(h, .inr (8, [.ref q_h_rules, .ref q_h_outs, .ref q_h_span])), (q_h_rules, .inr (5, [.int m_h_rules_bits, .int m_h_rules_unit, .int m_h_rules_offset, .int m_h_rules_lean, .int m_h_rules_ref, .int m_h_rules_top, .ref q_h_rules_misses, .ref q_h_rules_resistors])), (q_h_rules_misses, aI cy 9 m_h_rules_misses)]) (hS : va_S A s.heap H locs) (hl : lv_has ls 5 [(0, .ref h), (1, .int v1)]) : W p l e ({ frames := 3, cells := 0, slots := 0, locals := 63 } : Room) s m args below meth c H locs 0 0 (MQ below (kqi D cy [(h, .inr (8, [.ref q_h_rules, .ref q_h_outs, .ref q_h_span])), (q_h_rules, .inr (5, [.int m_h_rules_bits, .int m_h_rules_unit, .int m_h_rules_offset, .int m_h_rules_lean, .int m_h_rules_ref, .int m_h_rules_top, .ref q_h_rules_misses, .ref q_h_rules_resistors])), (q_h_rules_misses, aI cy 9 m_h_rules_misses)] z A) args s 0 0 A) (F0 m 0 ls []) := by
  obtain ⟨hx, hb, hr, hml, hown, hts, hlk, hK, hA, hN⟩ := id C
  unfold f_X8_sumOf at hf
  refine lv_aload_n hx hb dX8_sumOf_0 rfl (lv_at hl 0 rfl) ?_
  refine va_get (D := D) (ci := 8) (v := .ref q_h_rules) (C := RX8) (T := TX8) (N := 3) hx hb hts ui_X8 hown hK hP 0 rfl rfl 0 (by decide) (hts _ fl_X8_22) (fun _ h9 => h9) rfl dX8_sumOf_1 ?_
  refine va_get (D := D) (ci := 5) (v := .int m_h_rules_offset) (C := RX5) (T := TX5) (N := 8) hx hb hts ui_X5 hown hK hP 1 rfl rfl 2 (by decide) (hts _ fl_X8_39) (fun _ h9 => h9) rfl dX8_sumOf_4 ?_
  refine lv_istore_n (lv' := [(2, .int m_h_rules_offset), (0, .ref h), (1, .int v1)]) hx hb dX8_sumOf_7 rfl hl (by decide) rfl (fun ls hl => ?_)
  refine lv_aload_n hx hb dX8_sumOf_8 rfl (lv_at hl 1 rfl) ?_
  refine va_get (D := D) (ci := 8) (v := .ref q_h_rules) (C := RX8) (T := TX8) (N := 3) hx hb hts ui_X8 hown hK hP 0 rfl rfl 0 (by decide) (hts _ fl_X8_22) (fun _ h9 => h9) rfl dX8_sumOf_9 ?_
  obtain ⟨z12, hz12, hf⟩ := zb_of hf
  refine goI (wr := [(h, .inr (8, [.ref q_h_rules, .ref q_h_outs, .ref q_h_span])), (q_h_rules_misses, aI cy 9 m_h_rules_misses)]) (ws' := [(h, .inr (8, [.ref q_h_rules, .ref q_h_outs, .ref q_h_span])), (q_h_rules, .inr (5, [.int m_h_rules_bits, .int m_h_rules_unit, .int m_h_rules_offset, .int m_h_rules_lean, .int m_h_rules_ref, .int m_h_rules_top, .ref q_h_rules_misses, .ref q_h_rules_resistors])), (q_h_rules_misses, aI cy 9 m_h_rules_misses)]) C (runV (n := 0) (As := []) (rest := []) C (c_X5_parts l D cy H.size q_h_rules q_h_rules_misses q_h_rules_resistors m_h_rules_bits m_h_rules_unit m_h_rules_offset m_h_rules_lean m_h_rules_ref m_h_rules_top hz12) ml_X8_43 im_X5_parts se_X5_parts ii_X5 cd_X5_parts hd_X5_parts rfl rfl ⟨Nat.le_of_ble_eq_true rfl, Nat.le_of_ble_eq_true rfl⟩ (hP.sub [1] rfl) (hD.sub [1] (by decide) rfl) rfl rfl rfl hl.1 rfl (Nat.le_of_ble_eq_true rfl) dX8_sumOf_12) hP hD hS [1] [0, 2] [0, 2, 1] rfl rfl (by decide) (by decide) rfl (by decide) (fun H locs hP hD hS => ?_)
  refine lv_istore_n (lv' := [(3, .int z12), (2, .int m_h_rules_offset), (0, .ref h), (1, .int v1)]) hx hb dX8_sumOf_15 rfl hl (by decide) rfl (fun ls hl => ?_)
  refine lv_iconst (v := 0) hx hb dX8_sumOf_16 (by decide) ?_
  refine lv_istore (lv' := [(4, .int (0 : Int32)), (3, .int z12), (2, .int m_h_rules_offset), (0, .ref h), (1, .int v1)]) hx hb dX8_sumOf_17 hl (by decide) rfl (fun ls hl => ?_)
  obtain ⟨z19, hz19, hf⟩ := zb_of hf
  refine kl_X8_sumOf_L19 C _ _ _ _ _ _ hz19 hP hD hS (lv_sub hl [3, 4, 2, 1, 0] rfl) (fun H locs ls h0 hP hD hS hl => ?_)
  refine lv_iload_n hx hb dX8_sumOf_56 rfl (lv_at hl 0 rfl) ?_
  obtain rfl := Option.some.inj hf
  exact ret_i C hP hD hS dX8_sumOf_57
set_option maxRecDepth 100000 in
theorem c_X8_sumOf (l : Launch) (D : va_G) (cy : Nat → ClassId) (sz : Nat) (h q_h_rules q_h_outs q_h_span q_h_rules_misses q_h_rules_resistors : Nat) (v1 : Int32) (m_h_rules_bits : Int32) (m_h_rules_unit : Int32) (m_h_rules_offset : Int32) (m_h_rules_lean : Int32) (m_h_rules_ref : Int32) (m_h_rules_top : Int32) (m_h_rules_misses : Nat → Int32) {z : Int32} (hf : f_X8_sumOf v1 m_h_rules_bits m_h_rules_unit m_h_rules_offset m_h_rules_top m_h_rules_misses = some z) : Met l yX8_sumOf (.code yX8_sumOf cX8_sumOf 5 (some .int) :: tb) ({ frames := 3, cells := 0, slots := 0, locals := 63 } : Room) (kp D cy sz [.ref h, .int v1] [(h, .inr (8, [.ref q_h_rules, .ref q_h_outs, .ref q_h_span])), (q_h_rules, .inr (5, [.int m_h_rules_bits, .int m_h_rules_unit, .int m_h_rules_offset, .int m_h_rules_lean, .int m_h_rules_ref, .int m_h_rules_top, .ref q_h_rules_misses, .ref q_h_rules_resistors])), (q_h_rules_misses, aI cy 9 m_h_rules_misses)]) (kqi D cy [(h, .inr (8, [.ref q_h_rules, .ref q_h_outs, .ref q_h_span])), (q_h_rules, .inr (5, [.int m_h_rules_bits, .int m_h_rules_unit, .int m_h_rules_offset, .int m_h_rules_lean, .int m_h_rules_ref, .int m_h_rules_top, .ref q_h_rules_misses, .ref q_h_rules_resistors])), (q_h_rules_misses, aI cy 9 m_h_rules_misses)] z (va_A [(h, .inr (8, [.ref q_h_rules, .ref q_h_outs, .ref q_h_span])), (q_h_rules, .inr (5, [.int m_h_rules_bits, .int m_h_rules_unit, .int m_h_rules_offset, .int m_h_rules_lean, .int m_h_rules_ref, .int m_h_rules_top, .ref q_h_rules_misses, .ref q_h_rules_resistors])), (q_h_rules_misses, aI cy 9 m_h_rules_misses)] sz)) 0 0 (va_A [(h, .inr (8, [.ref q_h_rules, .ref q_h_outs, .ref q_h_span])), (q_h_rules, .inr (5, [.int m_h_rules_bits, .int m_h_rules_unit, .int m_h_rules_offset, .int m_h_rules_lean, .int m_h_rules_ref, .int m_h_rules_top, .ref q_h_rules_misses, .ref q_h_rules_resistors])), (q_h_rules_misses, aI cy 9 m_h_rules_misses)] sz) :=
  met_of (fun A => kqi D cy [(h, .inr (8, [.ref q_h_rules, .ref q_h_outs, .ref q_h_span])), (q_h_rules, .inr (5, [.int m_h_rules_bits, .int m_h_rules_unit, .int m_h_rules_offset, .int m_h_rules_lean, .int m_h_rules_ref, .int m_h_rules_top, .ref q_h_rules_misses, .ref q_h_rules_resistors])), (q_h_rules_misses, aI cy 9 m_h_rules_misses)] z A) (by decide +kernel) (Nat.le_of_ble_eq_true rfl) (fun p e s m below meth c A ls C hP hD hS hl => k_X8_sumOf C hf hP hD hS hl)
theorem hd_X8_sumOf : yX8_sumOf.cls ≠ "java/lang/invoke/MethodHandle" ∧ yX8_sumOf.cls ≠ "java/lang/invoke/VarHandle" ∧ (parseMethodDescriptor yX8_sumOf.desc).map (fun d => d.parameters.length) = some 1 := by decide +kernel
