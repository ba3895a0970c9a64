variable {p : Program} {l : Launch} {e : Env} {s : State} {m : MethodId} {args : Array Value} {below : List Frame} {meth : Method} {c : Code} {D : va_G} {cy : Nat → ClassId} {A : Nat → Prop} {H : Heap} {locs : List Loc} {ls : Array Slot} {Q : State → Prop}
def f_J6_bitCount_0f7a4 (v0 : Int32) : Option (Int32) :=
  zl (v0 - (((v0.toUInt32 >>> ((1 : Int32).toUInt32 &&& Int32.toUInt32 31)).toInt32) &&& (1431655765 : Int32))) fun x9 =>
  zl ((x9 &&& (858993459 : Int32)) + (((x9.toUInt32 >>> ((2 : Int32).toUInt32 &&& Int32.toUInt32 31)).toInt32) &&& (858993459 : Int32))) fun x23 =>
  zl ((x23 + ((x23.toUInt32 >>> ((4 : Int32).toUInt32 &&& Int32.toUInt32 31)).toInt32)) &&& (252645135 : Int32)) fun x33 =>
  zl (x33 + ((x33.toUInt32 >>> ((8 : Int32).toUInt32 &&& Int32.toUInt32 31)).toInt32)) fun x40 =>
  zl (x40 + ((x40.toUInt32 >>> ((16 : Int32).toUInt32 &&& Int32.toUInt32 31)).toInt32)) fun x47 =>
  some (x47 &&& (63 : Int32))
set_option maxHeartbeats 4000000 in
set_option maxRecDepth 100000 in
theorem k_J6_bitCount_0f7a4 {v0 : Int32} {z : Int32} (C : cx p s m args meth c cJ6_bitCount_0f7a4 1 (some .int) RJ6 D cy A) (hf : f_J6_bitCount_0f7a4 v0 = some z) (hP : va_P D vwCl [] H) (hD : va_D A []) (hS : va_S A s.heap H locs) (hl : lv_has ls 1 [(0, .int v0)]) : W p l e ({ frames := 0, cells := 0, slots := 0, locals := 0 } : Room) s m args below meth c H locs 0 0 (MQ below (kqi D cy [] z A) args s 0 0 A) (F0 m 0 ls []) := by
  obtain ⟨hx, hb, hr, hml, hown, hts, hlk, hK, hA, hN⟩ := id C
  unfold f_J6_bitCount_0f7a4 at hf
  refine lv_iload_n hx hb dJ6_bitCount_0f7a4_0 rfl (lv_at hl 0 rfl) ?_
  refine lv_iload_n hx hb dJ6_bitCount_0f7a4_1 rfl (lv_at hl 0 rfl) ?_
  refine lv_iconst (v := 1) hx hb dJ6_bitCount_0f7a4_2 (by decide) ?_
  refine lv_iushr hx hb dJ6_bitCount_0f7a4_3 rfl ?_
  refine lv_ldcw hx hb hown (hts _ kc_J6_265) dJ6_bitCount_0f7a4_4 ?_
  refine lv_iand hx hb dJ6_bitCount_0f7a4_7 ?_
  refine lv_isub hx hb dJ6_bitCount_0f7a4_8 ?_
  refine lv_topi (fun x9 ex9 => ?_)
  have hf := zl_of hf x9 ex9
  refine lv_istore_n (lv' := [(0, .int x9)]) hx hb dJ6_bitCount_0f7a4_9 rfl hl (by decide) rfl (fun ls hl => ?_)
  refine lv_iload_n hx hb dJ6_bitCount_0f7a4_10 rfl (lv_at hl 0 rfl) ?_
  refine lv_ldcw hx hb hown (hts _ kc_J6_266) dJ6_bitCount_0f7a4_11 ?_
  refine lv_iand hx hb dJ6_bitCount_0f7a4_14 ?_
  refine lv_iload_n hx hb dJ6_bitCount_0f7a4_15 rfl (lv_at hl 0 rfl) ?_
  refine lv_iconst (v := 2) hx hb dJ6_bitCount_0f7a4_16 (by decide) ?_
  refine lv_iushr hx hb dJ6_bitCount_0f7a4_17 rfl ?_
  refine lv_ldcw hx hb hown (hts _ kc_J6_266) dJ6_bitCount_0f7a4_18 ?_
  refine lv_iand hx hb dJ6_bitCount_0f7a4_21 ?_
  refine lv_iadd hx hb dJ6_bitCount_0f7a4_22 ?_
  refine lv_topi (fun x23 ex23 => ?_)
  have hf := zl_of hf x23 ex23
  refine lv_istore_n (lv' := [(0, .int x23)]) hx hb dJ6_bitCount_0f7a4_23 rfl hl (by decide) rfl (fun ls hl => ?_)
  refine lv_iload_n hx hb dJ6_bitCount_0f7a4_24 rfl (lv_at hl 0 rfl) ?_
  refine lv_iload_n hx hb dJ6_bitCount_0f7a4_25 rfl (lv_at hl 0 rfl) ?_
  refine lv_iconst (v := 4) hx hb dJ6_bitCount_0f7a4_26 (by decide) ?_
  refine lv_iushr hx hb dJ6_bitCount_0f7a4_27 rfl ?_
  refine lv_iadd hx hb dJ6_bitCount_0f7a4_28 ?_
  refine lv_ldcw hx hb hown (hts _ kc_J6_267) dJ6_bitCount_0f7a4_29 ?_
  refine lv_iand hx hb dJ6_bitCount_0f7a4_32 ?_
  refine lv_topi (fun x33 ex33 => ?_)
  have hf := zl_of hf x33 ex33
  refine lv_istore_n (lv' := [(0, .int x33)]) hx hb dJ6_bitCount_0f7a4_33 rfl hl (by decide) rfl (fun ls hl => ?_)
  refine lv_iload_n hx hb dJ6_bitCount_0f7a4_34 rfl (lv_at hl 0 rfl) ?_
  refine lv_iload_n hx hb dJ6_bitCount_0f7a4_35 rfl (lv_at hl 0 rfl) ?_
  refine lv_bipush (v := 8) hx hb dJ6_bitCount_0f7a4_36 (by decide) ?_
  refine lv_iushr hx hb dJ6_bitCount_0f7a4_38 rfl ?_
  refine lv_iadd hx hb dJ6_bitCount_0f7a4_39 ?_
  refine lv_topi (fun x40 ex40 => ?_)
  have hf := zl_of hf x40 ex40
  refine lv_istore_n (lv' := [(0, .int x40)]) hx hb dJ6_bitCount_0f7a4_40 rfl hl (by decide) rfl (fun ls hl => ?_)
  refine lv_iload_n hx hb dJ6_bitCount_0f7a4_41 rfl (lv_at hl 0 rfl) ?_
  refine lv_iload_n hx hb dJ6_bitCount_0f7a4_42 rfl (lv_at hl 0 rfl) ?_
  refine lv_bipush (v := 16) hx hb dJ6_bitCount_0f7a4_43 (by decide) ?_
  refine lv_iushr hx hb dJ6_bitCount_0f7a4_45 rfl ?_
  refine lv_iadd hx hb dJ6_bitCount_0f7a4_46 ?_
  refine lv_topi (fun x47 ex47 => ?_)
  have hf := zl_of hf x47 ex47
  refine lv_istore_n (lv' := [(0, .int x47)]) hx hb dJ6_bitCount_0f7a4_47 rfl hl (by decide) rfl (fun ls hl => ?_)
  refine lv_iload_n hx hb dJ6_bitCount_0f7a4_48 rfl (lv_at hl 0 rfl) ?_
  refine lv_bipush (v := 63) hx hb dJ6_bitCount_0f7a4_49 (by decide) ?_
  refine lv_iand hx hb dJ6_bitCount_0f7a4_51 ?_
  obtain rfl := Option.some.inj hf
  exact ret_i C hP hD hS dJ6_bitCount_0f7a4_52
set_option maxRecDepth 100000 in
theorem c_J6_bitCount_0f7a4 (l : Launch) (D : va_G) (cy : Nat → ClassId) (sz : Nat) (v0 : Int32) {z : Int32} (hf : f_J6_bitCount_0f7a4 v0 = some z) : Met l yJ6_bitCount_0f7a4 (.code yJ6_bitCount_0f7a4 cJ6_bitCount_0f7a4 1 (some .int) :: tb) ({ frames := 0, cells := 0, slots := 0, locals := 0 } : Room) (kp D cy sz [.int v0] []) (kqi D cy [] z (va_A [] sz)) 0 0 (va_A [] sz) :=
  met_of (fun A => kqi D cy [] z A) (by decide +kernel) (Nat.le_of_ble_eq_true rfl) (fun p e s m below meth c A ls C hP hD hS hl => k_J6_bitCount_0f7a4 C hf hP hD hS hl)
theorem hd_J6_bitCount_0f7a4 : yJ6_bitCount_0f7a4.cls ≠ "java/lang/invoke/MethodHandle" ∧ yJ6_bitCount_0f7a4.cls ≠ "java/lang/invoke/VarHandle" ∧ (parseMethodDescriptor yJ6_bitCount_0f7a4.desc).map (fun d => d.parameters.length) = some 1 := by decide +kernel
def f_J7_fill_53178_L5 (v1 : Int32) (v3 : Int32) (n_r0 : Nat) (w : Int32 × (Nat → Int32)) : Option (Nat × (Int32 × (Nat → Int32))) :=
  if v3 ≤ w.1 then
    some (1, (w.1, w.2))
  else
    zc w.1 n_r0 <|
    zl (upd w.2 w.1.toNatClampNeg v1) fun a13 =>
    zl (w.1 + (1 : Int32)) fun x14 =>
    some (0, (x14, a13))
set_option maxHeartbeats 4000000 in
set_option maxRecDepth 100000 in
theorem k_J7_fill_53178_L5 {r0 : Nat} {v1 : Int32} {v3 : Int32} {n_r0 : Nat} {w : Int32 × (Nat → Int32)} {z : Nat × (Int32 × (Nat → Int32))} (C : cx p s m args meth c cJ7_fill_53178 4 none RJ7 D cy A) (hf : f_J7_fill_53178_L5 v1 v3 n_r0 w = some z) (hP : va_P D vwCl [(r0, aI cy n_r0 w.2)] H) (hD : va_D A [(r0, aI cy n_r0 w.2)]) (hS : va_S A s.heap H locs) (hl : lv_has ls 4 [(0, .ref r0), (1, .int v1), (2, .int w.1), (3, .int v3)]) (hE0 : ∀ (H : Heap) (locs : List Loc) (ls : Array Slot), z.1 = 0 → va_P D vwCl [(r0, aI cy n_r0 z.2.2)] H → va_D A [(r0, aI cy n_r0 z.2.2)] → va_S A s.heap H locs → lv_has ls 4 [(0, .ref r0), (1, .int v1), (2, .int z.2.1), (3, .int v3)] → W p l e ({ frames := 0, cells := 0, slots := 0, locals := 0 } : Room) s m args below meth c H locs 0 0 Q (F0 m 5 ls [])) (hE1 : ∀ (H : Heap) (locs : List Loc) (ls : Array Slot), z.1 = 1 → va_P D vwCl [(r0, aI cy n_r0 z.2.2)] H → va_D A [(r0, aI cy n_r0 z.2.2)] → va_S A s.heap H locs → lv_has ls 4 [] → W p l e ({ frames := 0, cells := 0, slots := 0, locals := 0 } : Room) s m args below meth c H locs 0 0 Q (F0 m 20 ls [])) : W p l e ({ frames := 0, cells := 0, slots := 0, locals := 0 } : Room) s m args below meth c H locs 0 0 Q (F0 m 5 ls []) := by
  obtain ⟨hx, hb, hr, hml, hown, hts, hlk, hK, hA, hN⟩ := id C
  unfold f_J7_fill_53178_L5 at hf
  refine lv_iload_n hx hb dJ7_fill_53178_5 rfl (lv_at hl 2 rfl) ?_
  refine lv_iload_n hx hb dJ7_fill_53178_6 rfl (lv_at hl 3 rfl) ?_
  refine lv_icmp_ge (tgt := 20) hx hb dJ7_fill_53178_7 (by decide) (fun c7 => ?_) (fun c7 => ?_)
  · have hf := zt c7 hf
    obtain rfl := Option.some.inj hf
    exact hE1 _ _ _ rfl hP hD hS (lv_sub hl [] rfl)
  · have hf := zf c7 hf
    refine lv_aload_n hx hb dJ7_fill_53178_10 rfl (lv_at hl 0 rfl) ?_
    refine lv_iload_n hx hb dJ7_fill_53178_11 rfl (lv_at hl 2 rfl) ?_
    refine lv_iload_n hx hb dJ7_fill_53178_12 rfl (lv_at hl 1 rfl) ?_
    obtain ⟨hin, hf⟩ := zc_of hf
    obtain ⟨a13, ea13⟩ : ∃ y : Nat → Int32, y = upd w.2 w.1.toNatClampNeg v1 := ⟨_, rfl⟩
    have hf := zl_of hf a13 ea13
    refine va_iast hx hb hK hP hD hS 0 1 rfl rfl hin dJ7_fill_53178_13 (fun H locs hP hD hS => ?_)
    rw [← ea13] at hP hD
    have hP : va_P D vwCl [(r0, aI cy n_r0 a13)] H := hP
    have hD : va_D A [(r0, aI cy n_r0 a13)] := hD
    obtain ⟨x14, ex14⟩ : ∃ y : Int32, y = w.1 + (1 : Int32) := ⟨_, rfl⟩
    have hf := zl_of hf x14 ex14
    refine lv_iinc (v := x14) (lv' := [(2, .int x14), (0, .ref r0), (1, .int v1), (3, .int v3)]) hx hb dJ7_fill_53178_14 hl (k := 2) rfl (by rw [ex14]; rfl) (by decide) rfl (fun ls hl => ?_)
    refine lv_goto (tgt := 5) hx hb dJ7_fill_53178_17 (by decide) ?_
    obtain rfl := Option.some.inj hf
    exact hE0 _ _ _ rfl hP hD hS (lv_sub hl [1, 2, 0, 3] rfl)
set_option maxHeartbeats 4000000 in
set_option maxRecDepth 100000 in
theorem kl_J7_fill_53178_L5 {r0 : Nat} {v1 : Int32} {v3 : Int32} {n_r0 : Nat} (C : cx p s m args meth c cJ7_fill_53178 4 none RJ7 D cy A) : ∀ (n : Nat) (w : Int32 × (Nat → Int32)) (z : Nat × (Int32 × (Nat → Int32))) (H : Heap) (locs : List Loc) (ls : Array Slot), zp (f_J7_fill_53178_L5 v1 v3 n_r0) n w = some z → va_P D vwCl [(r0, aI cy n_r0 w.2)] H → va_D A [(r0, aI cy n_r0 w.2)] → va_S A s.heap H locs → lv_has ls 4 [(0, .ref r0), (1, .int v1), (2, .int w.1), (3, .int v3)] → (∀ (H : Heap) (locs : List Loc) (ls : Array Slot), z.1 = 1 → va_P D vwCl [(r0, aI cy n_r0 z.2.2)] H → va_D A [(r0, aI cy n_r0 z.2.2)] → va_S A s.heap H locs → lv_has ls 4 [] → W p l e ({ frames := 0, cells := 0, slots := 0, locals := 0 } : Room) s m args below meth c H locs 0 0 Q (F0 m 20 ls [])) → W p l e ({ frames := 0, cells := 0, slots := 0, locals := 0 } : Room) s m args below meth c H locs 0 0 Q (F0 m 5 ls []) := by
  intro n
  induction n with
  | zero => intro w z H locs ls hf; cases hf
  | succ n ih =>
    intro w z H locs ls hf hP hD hS hl hE1
    obtain ⟨w1, hw, hd⟩ := zp_s hf
    refine k_J7_fill_53178_L5 C hw hP hD hS hl (fun H locs ls h0 hP hD hS hl => ?_) (fun H locs ls h0 hP hD hS hl => ?_)
    · rcases hd with ⟨_, h⟩ | ⟨h, _⟩
      · exact ih _ _ _ _ _ h hP hD hS hl hE1
      · exact absurd h0 h
    · rcases hd with ⟨h, _⟩ | ⟨_, h⟩
      · exact absurd (h.symm.trans h0) (by decide)
      · subst h; exact hE1 _ _ _ h0 hP hD hS hl
def f_J7_fill_53178 (v1 : Int32) (m_r0 : Nat → Int32) (n_r0 : Nat) : Option ((Nat → Int32)) :=
  zb (zp (f_J7_fill_53178_L5 v1 (Int32.ofNat n_r0) n_r0) zF ((0 : Int32), m_r0)) fun z5 =>
  some z5.2.2
set_option maxHeartbeats 4000000 in
set_option maxRecDepth 100000 in
theorem k_J7_fill_53178 {r0 : Nat} {v1 : Int32} {m_r0 : Nat → Int32} {n_r0 : Nat} {z : (Nat → Int32)} (C : cx p s m args meth c cJ7_fill_53178 4 none RJ7 D cy A) (hf : f_J7_fill_53178 v1 m_r0 n_r0 = some z) (hP : va_P D vwCl [(r0, aI cy n_r0 m_r0)] H) (hD : va_D A [(r0, aI cy n_r0 m_r0)]) (hS : va_S A s.heap H locs) (hl : lv_has ls 4 [(0, .ref r0), (1, .int v1)]) : W p l e ({ frames := 0, cells := 0, slots := 0, locals := 0 } : Room) s m args below meth c H locs 0 0 (MQ below (kqv D cy [(r0, aI cy n_r0 z)] A) args s 0 0 A) (F0 m 0 ls []) := by
  obtain ⟨hx, hb, hr, hml, hown, hts, hlk, hK, hA, hN⟩ := id C
  unfold f_J7_fill_53178 at hf
  refine lv_iconst (v := 0) hx hb dJ7_fill_53178_0 (by decide) ?_
  refine lv_istore_n (lv' := [(2, .int (0 : Int32)), (0, .ref r0), (1, .int v1)]) hx hb dJ7_fill_53178_1 rfl hl (by decide) rfl (fun ls hl => ?_)
  refine lv_aload_n hx hb dJ7_fill_53178_2 rfl (lv_at hl 1 rfl) ?_
  refine va_alen (v := (Int32.ofNat n_r0)) hx hb hK hP 0 1 rfl rfl rfl dJ7_fill_53178_3 ?_
  refine lv_istore_n (lv' := [(3, .int (Int32.ofNat n_r0)), (2, .int (0 : Int32)), (0, .ref r0), (1, .int v1)]) hx hb dJ7_fill_53178_4 rfl hl (by decide) rfl (fun ls hl => ?_)
  obtain ⟨z5, hz5, hf⟩ := zb_of hf
  refine kl_J7_fill_53178_L5 C _ _ _ _ _ _ hz5 hP hD hS (lv_sub hl [2, 3, 1, 0] rfl) (fun H locs ls h0 hP hD hS hl => ?_)
  obtain rfl := Option.some.inj hf
  exact ret_v C hP hD hS dJ7_fill_53178_20
set_option maxRecDepth 100000 in
theorem c_J7_fill_53178 (l : Launch) (D : va_G) (cy : Nat → ClassId) (sz : Nat) (r0 : Nat) (v1 : Int32) (m_r0 : Nat → Int32) (n_r0 : Nat) {z : (Nat → Int32)} (hf : f_J7_fill_53178 v1 m_r0 n_r0 = some z) : Met l yJ7_fill_53178 (.code yJ7_fill_53178 cJ7_fill_53178 4 none :: tb) ({ frames := 0, cells := 0, slots := 0, locals := 0 } : Room) (kp D cy sz [.ref r0, .int v1] [(r0, aI cy n_r0 m_r0)]) (kqv D cy [(r0, aI cy n_r0 z)] (va_A [(r0, aI cy n_r0 m_r0)] sz)) 0 0 (va_A [(r0, aI cy n_r0 m_r0)] sz) :=
  met_of (fun A => kqv D cy [(r0, aI cy n_r0 z)] A) (by decide +kernel) (Nat.le_of_ble_eq_true rfl) (fun p e s m below meth c A ls C hP hD hS hl => k_J7_fill_53178 C hf hP hD hS hl)
theorem hd_J7_fill_53178 : yJ7_fill_53178.cls ≠ "java/lang/invoke/MethodHandle" ∧ yJ7_fill_53178.cls ≠ "java/lang/invoke/VarHandle" ∧ (parseMethodDescriptor yJ7_fill_53178.desc).map (fun d => d.parameters.length) = some 2 := by decide +kernel
def f_J9_abs_067f4 (v0 : Int64) : Option (Int64) :=
  if 0 ≤ (lg_cmp v0 (0 : Int64)) then
    some v0
  else
    some (-v0)
set_option maxHeartbeats 4000000 in
set_option maxRecDepth 100000 in
theorem k_J9_abs_067f4 {v0 : Int64} {z : Int64} (C : cx p s m args meth c cJ9_abs_067f4 2 (some .long) RJ9 D cy A) (hf : f_J9_abs_067f4 v0 = some z) (hP : va_P D vwCl [] H) (hD : va_D A []) (hS : va_S A s.heap H locs) (hl : lv_has ls 2 [(0, .long v0)]) : W p l e ({ frames := 0, cells := 0, slots := 0, locals := 0 } : Room) s m args below meth c H locs 0 0 (MQ below (kql D cy [] z A) args s 0 0 A) (F0 m 0 ls []) := by
  obtain ⟨hx, hb, hr, hml, hown, hts, hlk, hK, hA, hN⟩ := id C
  unfold f_J9_abs_067f4 at hf
  refine lv_lload_n hx hb dJ9_abs_067f4_0 rfl (lv_at hl 0 rfl) ?_
  refine lv_lconst (v := 0) hx hb dJ9_abs_067f4_1 (by decide) ?_
  refine W.lcmp hx hb dJ9_abs_067f4_2 ?_
  refine lv_if_ge (tgt := 11) hx hb dJ9_abs_067f4_3 (by decide) (fun c3 => ?_) (fun c3 => ?_)
  · have hf := zt c3 hf
    refine lv_lload_n hx hb dJ9_abs_067f4_11 rfl (lv_at hl 0 rfl) ?_
    obtain rfl := Option.some.inj hf
    exact ret_l C hP hD hS dJ9_abs_067f4_12
  · have hf := zf c3 hf
    refine lv_lload_n hx hb dJ9_abs_067f4_6 rfl (lv_at hl 0 rfl) ?_
    refine lv_lneg hx hb dJ9_abs_067f4_7 ?_
    refine lv_goto (tgt := 12) hx hb dJ9_abs_067f4_8 (by decide) ?_
    obtain rfl := Option.some.inj hf
    exact ret_l C hP hD hS dJ9_abs_067f4_12
set_option maxRecDepth 100000 in
theorem c_J9_abs_067f4 (l : Launch) (D : va_G) (cy : Nat → ClassId) (sz : Nat) (v0 : Int64) {z : Int64} (hf : f_J9_abs_067f4 v0 = some z) : Met l yJ9_abs_067f4 (.code yJ9_abs_067f4 cJ9_abs_067f4 2 (some .long) :: tb) ({ frames := 0, cells := 0, slots := 0, locals := 0 } : Room) (kp D cy sz [.long v0] []) (kql D cy [] z (va_A [] sz)) 0 0 (va_A [] sz) :=
  met_of (fun A => kql D cy [] z A) (by decide +kernel) (Nat.le_of_ble_eq_true rfl) (fun p e s m below meth c A ls C hP hD hS hl => k_J9_abs_067f4 C hf hP hD hS hl)
theorem hd_J9_abs_067f4 : yJ9_abs_067f4.cls ≠ "java/lang/invoke/MethodHandle" ∧ yJ9_abs_067f4.cls ≠ "java/lang/invoke/VarHandle" ∧ (parseMethodDescriptor yJ9_abs_067f4.desc).map (fun d => d.parameters.length) = some 1 := by decide +kernel
def f_J9_abs_0f7a4 (v0 : Int32) : Option (Int32) :=
  if 0 ≤ v0 then
    some v0
  else
    some (-v0)
set_option maxHeartbeats 4000000 in
set_option maxRecDepth 100000 in
theorem k_J9_abs_0f7a4 {v0 : Int32} {z : Int32} (C : cx p s m args meth c cJ9_abs_0f7a4 1 (some .int) RJ9 D cy A) (hf : f_J9_abs_0f7a4 v0 = some z) (hP : va_P D vwCl [] H) (hD : va_D A []) (hS : va_S A s.heap H locs) (hl : lv_has ls 1 [(0, .int v0)]) : W p l e ({ frames := 0, cells := 0, slots := 0, locals := 0 } : Room) s m args below meth c H locs 0 0 (MQ below (kqi D cy [] z A) args s 0 0 A) (F0 m 0 ls []) := by
  obtain ⟨hx, hb, hr, hml, hown, hts, hlk, hK, hA, hN⟩ := id C
  unfold f_J9_abs_0f7a4 at hf
  refine lv_iload_n hx hb dJ9_abs_0f7a4_0 rfl (lv_at hl 0 rfl) ?_
  refine lv_if_ge (tgt := 9) hx hb dJ9_abs_0f7a4_1 (by decide) (fun c1 => ?_) (fun c1 => ?_)
  · have hf := zt c1 hf
    refine lv_iload_n hx hb dJ9_abs_0f7a4_9 rfl (lv_at hl 0 rfl) ?_
    obtain rfl := Option.some.inj hf
    exact ret_i C hP hD hS dJ9_abs_0f7a4_10
  · have hf := zf c1 hf
    refine lv_iload_n hx hb dJ9_abs_0f7a4_4 rfl (lv_at hl 0 rfl) ?_
    refine lv_ineg hx hb dJ9_abs_0f7a4_5 ?_
    refine lv_goto (tgt := 10) hx hb dJ9_abs_0f7a4_6 (by decide) ?_
    obtain rfl := Option.some.inj hf
    exact ret_i C hP hD hS dJ9_abs_0f7a4_10
set_option maxRecDepth 100000 in
theorem c_J9_abs_0f7a4 (l : Launch) (D : va_G) (cy : Nat → ClassId) (sz : Nat) (v0 : Int32) {z : Int32} (hf : f_J9_abs_0f7a4 v0 = some z) : Met l yJ9_abs_0f7a4 (.code yJ9_abs_0f7a4 cJ9_abs_0f7a4 1 (some .int) :: tb) ({ frames := 0, cells := 0, slots := 0, locals := 0 } : Room) (kp D cy sz [.int v0] []) (kqi D cy [] z (va_A [] sz)) 0 0 (va_A [] sz) :=
  met_of (fun A => kqi D cy [] z A) (by decide +kernel) (Nat.le_of_ble_eq_true rfl) (fun p e s m below meth c A ls C hP hD hS hl => k_J9_abs_0f7a4 C hf hP hD hS hl)
theorem hd_J9_abs_0f7a4 : yJ9_abs_0f7a4.cls ≠ "java/lang/invoke/MethodHandle" ∧ yJ9_abs_0f7a4.cls ≠ "java/lang/invoke/VarHandle" ∧ (parseMethodDescriptor yJ9_abs_0f7a4.desc).map (fun d => d.parameters.length) = some 1 := by decide +kernel
def f_J9_floorDiv_7cf53 (v0 : Int32) (v1 : Int32) : Option (Int32) :=
  zn v1 <|
  zl (v0 / v1) fun x3 =>
  if 0 ≤ (v0 ^^^ v1) then
    some x3
  else
    if (x3 * v1) = v0 then
      some x3
    else
      some (x3 - (1 : Int32))
set_option maxHeartbeats 4000000 in
set_option maxRecDepth 100000 in
theorem k_J9_floorDiv_7cf53 {v0 : Int32} {v1 : Int32} {z : Int32} (C : cx p s m args meth c cJ9_floorDiv_7cf53 3 (some .int) RJ9 D cy A) (hf : f_J9_floorDiv_7cf53 v0 v1 = some z) (hP : va_P D vwCl [] H) (hD : va_D A []) (hS : va_S A s.heap H locs) (hl : lv_has ls 3 [(0, .int v0), (1, .int v1)]) : W p l e ({ frames := 0, cells := 0, slots := 0, locals := 0 } : Room) s m args below meth c H locs 0 0 (MQ below (kqi D cy [] z A) args s 0 0 A) (F0 m 0 ls []) := by
  obtain ⟨hx, hb, hr, hml, hown, hts, hlk, hK, hA, hN⟩ := id C
  unfold f_J9_floorDiv_7cf53 at hf
  refine lv_iload_n hx hb dJ9_floorDiv_7cf53_0 rfl (lv_at hl 0 rfl) ?_
  refine lv_iload_n hx hb dJ9_floorDiv_7cf53_1 rfl (lv_at hl 1 rfl) ?_
  obtain ⟨hne, hf⟩ := zn_of hf
  refine lv_idiv hx hb dJ9_floorDiv_7cf53_2 hne ?_
  refine lv_topi (fun x3 ex3 => ?_)
  have hf := zl_of hf x3 ex3
  refine lv_istore_n (lv' := [(2, .int x3), (0, .int v0), (1, .int v1)]) hx hb dJ9_floorDiv_7cf53_3 rfl hl (by decide) rfl (fun ls hl => ?_)
  refine lv_iload_n hx hb dJ9_floorDiv_7cf53_4 rfl (lv_at hl 1 rfl) ?_
  refine lv_iload_n hx hb dJ9_floorDiv_7cf53_5 rfl (lv_at hl 2 rfl) ?_
  refine lv_ixor hx hb dJ9_floorDiv_7cf53_6 ?_
  refine lv_if_ge (tgt := 21) hx hb dJ9_floorDiv_7cf53_7 (by decide) (fun c7 => ?_) (fun c7 => ?_)
  · have hf := zt c7 hf
    refine lv_iload_n hx hb dJ9_floorDiv_7cf53_21 rfl (lv_at hl 0 rfl) ?_
    obtain rfl := Option.some.inj hf
    exact ret_i C hP hD hS dJ9_floorDiv_7cf53_22
  · have hf := zf c7 hf
    refine lv_iload_n hx hb dJ9_floorDiv_7cf53_10 rfl (lv_at hl 0 rfl) ?_
    refine lv_iload_n hx hb dJ9_floorDiv_7cf53_11 rfl (lv_at hl 2 rfl) ?_
    refine lv_imul hx hb dJ9_floorDiv_7cf53_12 ?_
    refine lv_iload_n hx hb dJ9_floorDiv_7cf53_13 rfl (lv_at hl 1 rfl) ?_
    refine lv_icmp_eq (tgt := 21) hx hb dJ9_floorDiv_7cf53_14 (by decide) (fun c14 => ?_) (fun c14 => ?_)
    · have hf := zt c14 hf
      refine lv_iload_n hx hb dJ9_floorDiv_7cf53_21 rfl (lv_at hl 0 rfl) ?_
      obtain rfl := Option.some.inj hf
      exact ret_i C hP hD hS dJ9_floorDiv_7cf53_22
    · have hf := zf c14 hf
      refine lv_iload_n hx hb dJ9_floorDiv_7cf53_17 rfl (lv_at hl 0 rfl) ?_
      refine lv_iconst (v := 1) hx hb dJ9_floorDiv_7cf53_18 (by decide) ?_
      refine lv_isub hx hb dJ9_floorDiv_7cf53_19 ?_
      obtain rfl := Option.some.inj hf
      exact ret_i C hP hD hS dJ9_floorDiv_7cf53_20
set_option maxRecDepth 100000 in
theorem c_J9_floorDiv_7cf53 (l : Launch) (D : va_G) (cy : Nat → ClassId) (sz : Nat) (v0 : Int32) (v1 : Int32) {z : Int32} (hf : f_J9_floorDiv_7cf53 v0 v1 = some z) : Met l yJ9_floorDiv_7cf53 (.code yJ9_floorDiv_7cf53 cJ9_floorDiv_7cf53 3 (some .int) :: tb) ({ frames := 0, cells := 0, slots := 0, locals := 0 } : Room) (kp D cy sz [.int v0, .int v1] []) (kqi D cy [] z (va_A [] sz)) 0 0 (va_A [] sz) :=
  met_of (fun A => kqi D cy [] z A) (by decide +kernel) (Nat.le_of_ble_eq_true rfl) (fun p e s m below meth c A ls C hP hD hS hl => k_J9_floorDiv_7cf53 C hf hP hD hS hl)
theorem hd_J9_floorDiv_7cf53 : yJ9_floorDiv_7cf53.cls ≠ "java/lang/invoke/MethodHandle" ∧ yJ9_floorDiv_7cf53.cls ≠ "java/lang/invoke/VarHandle" ∧ (parseMethodDescriptor yJ9_floorDiv_7cf53.desc).map (fun d => d.parameters.length) = some 2 := by decide +kernel
def f_J9_max_7cf53 (v0 : Int32) (v1 : Int32) : Option (Int32) :=
  if v0 < v1 then
    some v1
  else
    some v0
set_option maxHeartbeats 4000000 in
set_option maxRecDepth 100000 in
theorem k_J9_max_7cf53 {v0 : Int32} {v1 : Int32} {z : Int32} (C : cx p s m args meth c cJ9_max_7cf53 2 (some .int) RJ9 D cy A) (hf : f_J9_max_7cf53 v0 v1 = some z) (hP : va_P D vwCl [] H) (hD : va_D A []) (hS : va_S A s.heap H locs) (hl : lv_has ls 2 [(0, .int v0), (1, .int v1)]) : W p l e ({ frames := 0, cells := 0, slots := 0, locals := 0 } : Room) s m args below meth c H locs 0 0 (MQ below (kqi D cy [] z A) args s 0 0 A) (F0 m 0 ls []) := by
  obtain ⟨hx, hb, hr, hml, hown, hts, hlk, hK, hA, hN⟩ := id C
  unfold f_J9_max_7cf53 at hf
  refine lv_iload_n hx hb dJ9_max_7cf53_0 rfl (lv_at hl 0 rfl) ?_
  refine lv_iload_n hx hb dJ9_max_7cf53_1 rfl (lv_at hl 1 rfl) ?_
  refine lv_icmp_lt (tgt := 9) hx hb dJ9_max_7cf53_2 (by decide) (fun c2 => ?_) (fun c2 => ?_)
  · have hf := zt c2 hf
    refine lv_iload_n hx hb dJ9_max_7cf53_9 rfl (lv_at hl 1 rfl) ?_
    obtain rfl := Option.some.inj hf
    exact ret_i C hP hD hS dJ9_max_7cf53_10
  · have hf := zf c2 hf
    refine lv_iload_n hx hb dJ9_max_7cf53_5 rfl (lv_at hl 0 rfl) ?_
    refine lv_goto (tgt := 10) hx hb dJ9_max_7cf53_6 (by decide) ?_
    obtain rfl := Option.some.inj hf
    exact ret_i C hP hD hS dJ9_max_7cf53_10
set_option maxRecDepth 100000 in
theorem c_J9_max_7cf53 (l : Launch) (D : va_G) (cy : Nat → ClassId) (sz : Nat) (v0 : Int32) (v1 : Int32) {z : Int32} (hf : f_J9_max_7cf53 v0 v1 = some z) : Met l yJ9_max_7cf53 (.code yJ9_max_7cf53 cJ9_max_7cf53 2 (some .int) :: tb) ({ frames := 0, cells := 0, slots := 0, locals := 0 } : Room) (kp D cy sz [.int v0, .int v1] []) (kqi D cy [] z (va_A [] sz)) 0 0 (va_A [] sz) :=
  met_of (fun A => kqi D cy [] z A) (by decide +kernel) (Nat.le_of_ble_eq_true rfl) (fun p e s m below meth c A ls C hP hD hS hl => k_J9_max_7cf53 C hf hP hD hS hl)
theorem hd_J9_max_7cf53 : yJ9_max_7cf53.cls ≠ "java/lang/invoke/MethodHandle" ∧ yJ9_max_7cf53.cls ≠ "java/lang/invoke/VarHandle" ∧ (parseMethodDescriptor yJ9_max_7cf53.desc).map (fun d => d.parameters.length) = some 2 := by decide +kernel
def f_J9_min_7cf53 (v0 : Int32) (v1 : Int32) : Option (Int32) :=
  if v1 < v0 then
    some v1
  else
    some v0
set_option maxHeartbeats 4000000 in
set_option maxRecDepth 100000 in
theorem k_J9_min_7cf53 {v0 : Int32} {v1 : Int32} {z : Int32} (C : cx p s m args meth c cJ9_min_7cf53 2 (some .int) RJ9 D cy A) (hf : f_J9_min_7cf53 v0 v1 = some z) (hP : va_P D vwCl [] H) (hD : va_D A []) (hS : va_S A s.heap H locs) (hl : lv_has ls 2 [(0, .int v0), (1, .int v1)]) : W p l e ({ frames := 0, cells := 0, slots := 0, locals := 0 } : Room) s m args below meth c H locs 0 0 (MQ below (kqi D cy [] z A) args s 0 0 A) (F0 m 0 ls []) := by
  obtain ⟨hx, hb, hr, hml, hown, hts, hlk, hK, hA, hN⟩ := id C
  unfold f_J9_min_7cf53 at hf
  refine lv_iload_n hx hb dJ9_min_7cf53_0 rfl (lv_at hl 0 rfl) ?_
  refine lv_iload_n hx hb dJ9_min_7cf53_1 rfl (lv_at hl 1 rfl) ?_
  refine lv_icmp_gt (tgt := 9) hx hb dJ9_min_7cf53_2 (by decide) (fun c2 => ?_) (fun c2 => ?_)
  · have hf := zt c2 hf
    refine lv_iload_n hx hb dJ9_min_7cf53_9 rfl (lv_at hl 1 rfl) ?_
    obtain rfl := Option.some.inj hf
    exact ret_i C hP hD hS dJ9_min_7cf53_10
  · have hf := zf c2 hf
    refine lv_iload_n hx hb dJ9_min_7cf53_5 rfl (lv_at hl 0 rfl) ?_
    refine lv_goto (tgt := 10) hx hb dJ9_min_7cf53_6 (by decide) ?_
    obtain rfl := Option.some.inj hf
    exact ret_i C hP hD hS dJ9_min_7cf53_10
set_option maxRecDepth 100000 in
theorem c_J9_min_7cf53 (l : Launch) (D : va_G) (cy : Nat → ClassId) (sz : Nat) (v0 : Int32) (v1 : Int32) {z : Int32} (hf : f_J9_min_7cf53 v0 v1 = some z) : Met l yJ9_min_7cf53 (.code yJ9_min_7cf53 cJ9_min_7cf53 2 (some .int) :: tb) ({ frames := 0, cells := 0, slots := 0, locals := 0 } : Room) (kp D cy sz [.int v0, .int v1] []) (kqi D cy [] z (va_A [] sz)) 0 0 (va_A [] sz) :=
  met_of (fun A => kqi D cy [] z A) (by decide +kernel) (Nat.le_of_ble_eq_true rfl) (fun p e s m below meth c A ls C hP hD hS hl => k_J9_min_7cf53 C hf hP hD hS hl)
theorem hd_J9_min_7cf53 : yJ9_min_7cf53.cls ≠ "java/lang/invoke/MethodHandle" ∧ yJ9_min_7cf53.cls ≠ "java/lang/invoke/VarHandle" ∧ (parseMethodDescriptor yJ9_min_7cf53.desc).map (fun d => d.parameters.length) = some 2 := by decide +kernel
