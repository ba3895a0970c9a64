variable {p : Program} {l : Launch} {e : Env} {s : State} {m : MethodId} {args : Array Value} {below : List Frame} {meth : Method} {c : Code} {D : va_G} {cy : Nat → ClassId} {A : Nat → Prop} {H : Heap} {locs : List Loc} {ls : Array Slot} {Q : State → Prop}
def f_X1_commonDivisor_L3 (w : Int64 × Int64 × Int32) : Option (Nat × (Int64 × Int64 × Int32)) :=
  if (200 : Int32) ≤ w.2.2 then
    some (1, (w.1, w.2.1, w.2.2))
  else
    if (lg_cmp w.2.1 (0 : Int64)) = 0 then
      some (1, (w.1, w.2.1, w.2.2))
    else
      znl w.2.1 <|
      zl (w.1 - w.1 / w.2.1 * w.2.1) fun x20 =>
      zl (w.2.2 + (1 : Int32)) fun x27 =>
      some (0, (w.2.1, x20, x27))
set_option maxHeartbeats 4000000 in
set_option maxRecDepth 100000 in
theorem k_X1_commonDivisor_L3  {w : Int64 × Int64 × Int32} {z : Nat × (Int64 × Int64 × Int32)} (C : cx p s m args meth c cX1_commonDivisor 7 (some .long) RX1 D cy A) (hf : f_X1_commonDivisor_L3 w = some z) (hP : va_P D vwCl [] H) (hD : va_D A []) (hS : va_S A s.heap H locs) (hl : lv_has ls 7 [(0, .long w.1), (2, .long w.2.1), (4, .int w.2.2)]) (hE0 : ∀ (H : Heap) (locs : List Loc) (ls : Array Slot), z.1 = 0 → va_P D vwCl [] H → va_D A [] → va_S A s.heap H locs → lv_has ls 7 [(0, .long z.2.1), (2, .long z.2.2.1), (4, .int z.2.2.2)] → W p l e ({ frames := 0, cells := 0, slots := 0, locals := 0 } : Room) s m args below meth c H locs 0 0 Q (F0 m 3 ls [])) (hE1 : ∀ (H : Heap) (locs : List Loc) (ls : Array Slot), z.1 = 1 → va_P D vwCl [] H → va_D A [] → va_S A s.heap H locs → lv_has ls 7 [(0, .long z.2.1)] → W p l e ({ frames := 0, cells := 0, slots := 0, locals := 0 } : Room) s m args below meth c H locs 0 0 Q (F0 m 33 ls [])) : W p l e ({ frames := 0, cells := 0, slots := 0, locals := 0 } : Room) s m args below meth c H locs 0 0 Q (F0 m 3 ls []) := by
  obtain ⟨hx, hb, hr, hml, hown, hts, hlk, hK, hA, hN⟩ := id C
  unfold f_X1_commonDivisor_L3 at hf
  refine lv_iload hx hb dX1_commonDivisor_3 (lv_at hl 2 rfl) ?_
  refine lv_sipush (v := 200) hx hb dX1_commonDivisor_5 (by decide) ?_
  refine lv_icmp_ge (tgt := 33) hx hb dX1_commonDivisor_8 (by decide) (fun c8 => ?_) (fun c8 => ?_)
  · have hf := zt c8 hf
    obtain rfl := Option.some.inj hf
    exact hE1 _ _ _ rfl hP hD hS (lv_sub hl [0] rfl)
  · have hf := zf c8 hf
    refine lv_lload_n hx hb dX1_commonDivisor_11 rfl (lv_at hl 1 rfl) ?_
    refine lv_lconst (v := 0) hx hb dX1_commonDivisor_12 (by decide) ?_
    refine W.lcmp hx hb dX1_commonDivisor_13 ?_
    refine lv_if_eq (tgt := 33) hx hb dX1_commonDivisor_14 (by decide) (fun c14 => ?_) (fun c14 => ?_)
    · have hf := zt c14 hf
      obtain rfl := Option.some.inj hf
      exact hE1 _ _ _ rfl hP hD hS (lv_sub hl [0] rfl)
    · have hf := zf c14 hf
      refine lv_lload_n hx hb dX1_commonDivisor_17 rfl (lv_at hl 0 rfl) ?_
      refine lv_lload_n hx hb dX1_commonDivisor_18 rfl (lv_at hl 1 rfl) ?_
      obtain ⟨hne, hf⟩ := znl_of hf
      refine lv_lrem hx hb dX1_commonDivisor_19 hne ?_
      refine lv_topl (fun x20 ex20 => ?_)
      have hf := zl_of hf x20 ex20
      refine lv_lstore (lv' := [(5, .long x20), (0, .long w.1), (2, .long w.2.1), (4, .int w.2.2)]) hx hb dX1_commonDivisor_20 hl (by decide) rfl (fun ls hl => ?_)
      refine lv_lload_n hx hb dX1_commonDivisor_22 rfl (lv_at hl 2 rfl) ?_
      refine lv_lstore_n (lv' := [(0, .long w.2.1), (5, .long x20), (2, .long w.2.1), (4, .int w.2.2)]) hx hb dX1_commonDivisor_23 rfl hl (by decide) rfl (fun ls hl => ?_)
      refine lv_lload hx hb dX1_commonDivisor_24 (lv_at hl 1 rfl) ?_
      refine lv_lstore_n (lv' := [(2, .long x20), (0, .long w.2.1), (5, .long x20), (4, .int w.2.2)]) hx hb dX1_commonDivisor_26 rfl hl (by decide) rfl (fun ls hl => ?_)
      obtain ⟨x27, ex27⟩ : ∃ y : Int32, y = w.2.2 + (1 : Int32) := ⟨_, rfl⟩
      have hf := zl_of hf x27 ex27
      refine lv_iinc (v := x27) (lv' := [(4, .int x27), (2, .long x20), (0, .long w.2.1), (5, .long x20)]) hx hb dX1_commonDivisor_27 hl (k := 3) rfl (by rw [ex27]; rfl) (by decide) rfl (fun ls hl => ?_)
      refine lv_goto (tgt := 3) hx hb dX1_commonDivisor_30 (by decide) ?_
      obtain rfl := Option.some.inj hf
      exact hE0 _ _ _ rfl hP hD hS (lv_sub hl [2, 1, 0] rfl)
set_option maxHeartbeats 4000000 in
set_option maxRecDepth 100000 in
theorem kl_X1_commonDivisor_L3  (C : cx p s m args meth c cX1_commonDivisor 7 (some .long) RX1 D cy A) : ∀ (n : Nat) (w : Int64 × Int64 × Int32) (z : Nat × (Int64 × Int64 × Int32)) (H : Heap) (locs : List Loc) (ls : Array Slot), zp f_X1_commonDivisor_L3 n w = some z → va_P D vwCl [] H → va_D A [] → va_S A s.heap H locs → lv_has ls 7 [(0, .long w.1), (2, .long w.2.1), (4, .int w.2.2)] → (∀ (H : Heap) (locs : List Loc) (ls : Array Slot), z.1 = 1 → va_P D vwCl [] H → va_D A [] → va_S A s.heap H locs → lv_has ls 7 [(0, .long z.2.1)] → W p l e ({ frames := 0, cells := 0, slots := 0, locals := 0 } : Room) s m args below meth c H locs 0 0 Q (F0 m 33 ls [])) → W p l e ({ frames := 0, cells := 0, slots := 0, locals := 0 } : Room) s m args below meth c H locs 0 0 Q (F0 m 3 ls []) := by
  intro n
  induction n with
  | zero => intro w z H locs ls hf; cases hf
  | succ n ih =>
    intro w z H locs ls hf hP hD hS hl hE1
    obtain ⟨w1, hw, hd⟩ := zp_s hf
    refine k_X1_commonDivisor_L3 C hw hP hD hS hl (fun H locs ls h0 hP hD hS hl => ?_) (fun H locs ls h0 hP hD hS hl => ?_)
    · rcases hd with ⟨_, h⟩ | ⟨h, _⟩
      · exact ih _ _ _ _ _ h hP hD hS hl hE1
      · exact absurd h0 h
    · rcases hd with ⟨h, _⟩ | ⟨_, h⟩
      · exact absurd (h.symm.trans h0) (by decide)
      · subst h; exact hE1 _ _ _ h0 hP hD hS hl
def f_X1_commonDivisor (v0 : Int64) (v2 : Int64) : Option (Int64) :=
  zb (zp f_X1_commonDivisor_L3 zF (v0, v2, (0 : Int32))) fun z3 =>
  some z3.2.1
set_option maxHeartbeats 4000000 in
set_option maxRecDepth 100000 in
theorem k_X1_commonDivisor {v0 : Int64} {v2 : Int64} {z : Int64} (C : cx p s m args meth c cX1_commonDivisor 7 (some .long) RX1 D cy A) (hf : f_X1_commonDivisor v0 v2 = some z) (hP : va_P D vwCl [] H) (hD : va_D A []) (hS : va_S A s.heap H locs) (hl : lv_has ls 7 [(0, .long v0), (2, .long v2)]) : W p l e ({ frames := 0, cells := 0, slots := 0, locals := 0 } : Room) s m args below meth c H locs 0 0 (MQ below (kql D cy [] z A) args s 0 0 A) (F0 m 0 ls []) := by
  obtain ⟨hx, hb, hr, hml, hown, hts, hlk, hK, hA, hN⟩ := id C
  unfold f_X1_commonDivisor at hf
  refine lv_iconst (v := 0) hx hb dX1_commonDivisor_0 (by decide) ?_
  refine lv_istore (lv' := [(4, .int (0 : Int32)), (0, .long v0), (2, .long v2)]) hx hb dX1_commonDivisor_1 hl (by decide) rfl (fun ls hl => ?_)
  obtain ⟨z3, hz3, hf⟩ := zb_of hf
  refine kl_X1_commonDivisor_L3 C _ _ _ _ _ _ hz3 hP hD hS (lv_sub hl [1, 2, 0] rfl) (fun H locs ls h0 hP hD hS hl => ?_)
  refine lv_lload_n hx hb dX1_commonDivisor_33 rfl (lv_at hl 0 rfl) ?_
  obtain rfl := Option.some.inj hf
  exact ret_l C hP hD hS dX1_commonDivisor_34
set_option maxRecDepth 100000 in
theorem c_X1_commonDivisor (l : Launch) (D : va_G) (cy : Nat → ClassId) (sz : Nat) (v0 : Int64) (v2 : Int64) {z : Int64} (hf : f_X1_commonDivisor v0 v2 = some z) : Met l yX1_commonDivisor (.code yX1_commonDivisor cX1_commonDivisor 7 (some .long) :: tb) ({ frames := 0, cells := 0, slots := 0, locals := 0 } : Room) (kp D cy sz [.long v0, .long v2] []) (kql D cy [] z (va_A [] sz)) 0 0 (va_A [] sz) :=
  met_of (fun A => kql D cy [] z A) (by decide +kernel) (Nat.le_of_ble_eq_true rfl) (fun p e s m below meth c A ls C hP hD hS hl => k_X1_commonDivisor C hf hP hD hS hl)
theorem hd_X1_commonDivisor : yX1_commonDivisor.cls ≠ "java/lang/invoke/MethodHandle" ∧ yX1_commonDivisor.cls ≠ "java/lang/invoke/VarHandle" ∧ (parseMethodDescriptor yX1_commonDivisor.desc).map (fun d => d.parameters.length) = some 2 := by decide +kernel
def f_X1_put_J26 : Option (Int64 × Int64) :=
  some ((0 : Int64), (1 : Int64))
set_option maxHeartbeats 4000000 in
set_option maxRecDepth 100000 in
theorem k_X1_put_J26 {h : Nat} {m_h_numerator : Int64} {m_h_denominator : Int64} {z : Int64 × Int64} (C : cx p s m args meth c cX1_put 9 none RX1 D cy A) (hf : f_X1_put_J26 = some z) (hP : va_P D vwCl [(h, .inr (1, [.long m_h_numerator, .long m_h_denominator]))] H) (hD : va_D A [(h, .inr (1, [.long m_h_numerator, .long m_h_denominator]))]) (hS : va_S A s.heap H locs) (hl : lv_has ls 9 [(0, .ref h)]) : W p l e ({ frames := 1, cells := 0, slots := 0, locals := 26 } : Room) s m args below meth c H locs 0 0 (MQ below (kqv D cy [(h, .inr (1, [.long z.1, .long z.2]))] A) args s 0 0 A) (F0 m 26 ls []) := by
  obtain ⟨hx, hb, hr, hml, hown, hts, hlk, hK, hA, hN⟩ := id C
  unfold f_X1_put_J26 at hf
  refine lv_aload_n hx hb dX1_put_26 rfl (lv_at hl 0 rfl) ?_
  refine lv_lconst (v := 0) hx hb dX1_put_27 (by decide) ?_
  refine va_put (D := D) (ci := 1) (v := .long (0 : Int64)) (ty := .long) (C := RX1) (T := TX1) (N := 2) hx hb hts ui_X1 tyX1 tyX1_ok nmX1 hown hK hP hD hS 0 rfl rfl 0 (by decide) (hts _ fl_X1_7) (fun _ h9 => h9) rfl rfl rfl rfl (Nat.le_of_ble_eq_true rfl) dX1_put_28 (fun H locs hP hD hS => ?_)
  have hP : va_P D vwCl [(h, .inr (1, [.long (0 : Int64), .long m_h_denominator]))] H := hP
  have hD : va_D A [(h, .inr (1, [.long (0 : Int64), .long m_h_denominator]))] := hD
  refine lv_aload_n hx hb dX1_put_31 rfl (lv_at hl 0 rfl) ?_
  refine lv_lconst (v := 1) hx hb dX1_put_32 (by decide) ?_
  refine va_put (D := D) (ci := 1) (v := .long (1 : Int64)) (ty := .long) (C := RX1) (T := TX1) (N := 2) hx hb hts ui_X1 tyX1 tyX1_ok nmX1 hown hK hP hD hS 0 rfl rfl 1 (by decide) (hts _ fl_X1_13) (fun _ h9 => h9) rfl rfl rfl rfl (Nat.le_of_ble_eq_true rfl) dX1_put_33 (fun H locs hP hD hS => ?_)
  have hP : va_P D vwCl [(h, .inr (1, [.long (0 : Int64), .long (1 : Int64)]))] H := hP
  have hD : va_D A [(h, .inr (1, [.long (0 : Int64), .long (1 : Int64)]))] := hD
  obtain rfl := Option.some.inj hf
  exact ret_v C hP hD hS dX1_put_36
def f_X1_put_J50 (v1 : Int64) (v3 : Int64) (v5 : Int64) (k0 : Int64) : Option (Int64 × Int64) :=
  znl v5 <|
  zl ((k0 * v1) / v5) fun x60 =>
  znl v5 <|
  zl ((k0 * v3) / v5) fun x71 =>
  some (x60, x71)
set_option maxHeartbeats 4000000 in
set_option maxRecDepth 100000 in
theorem k_X1_put_J50 {h : Nat} {v1 : Int64} {v3 : Int64} {v5 : Int64} {k0 : Int64} {m_h_numerator : Int64} {m_h_denominator : Int64} {z : Int64 × Int64} (C : cx p s m args meth c cX1_put 9 none RX1 D cy A) (hf : f_X1_put_J50 v1 v3 v5 k0 = some z) (hP : va_P D vwCl [(h, .inr (1, [.long m_h_numerator, .long m_h_denominator]))] H) (hD : va_D A [(h, .inr (1, [.long m_h_numerator, .long m_h_denominator]))]) (hS : va_S A s.heap H locs) (hl : lv_has ls 9 [(0, .ref h), (1, .long v1), (3, .long v3), (5, .long v5)]) : W p l e ({ frames := 1, cells := 0, slots := 0, locals := 26 } : Room) s m args below meth c H locs 0 0 (MQ below (kqv D cy [(h, .inr (1, [.long z.1, .long z.2]))] A) args s 0 0 A) (F0 m 50 ls [.long k0]) := by
  obtain ⟨hx, hb, hr, hml, hown, hts, hlk, hK, hA, hN⟩ := id C
  unfold f_X1_put_J50 at hf
  refine lv_lstore (lv' := [(7, .long k0), (0, .ref h), (1, .long v1), (3, .long v3), (5, .long v5)]) hx hb dX1_put_50 hl (by decide) rfl (fun ls hl => ?_)
  refine lv_aload_n hx hb dX1_put_52 rfl (lv_at hl 1 rfl) ?_
  refine lv_lload hx hb dX1_put_53 (lv_at hl 0 rfl) ?_
  refine lv_lload_n hx hb dX1_put_55 rfl (lv_at hl 2 rfl) ?_
  refine lv_lmul hx hb dX1_put_56 ?_
  refine lv_lload hx hb dX1_put_57 (lv_at hl 4 rfl) ?_
  obtain ⟨hne, hf⟩ := znl_of hf
  refine lv_ldiv hx hb dX1_put_59 hne ?_
  refine lv_topl (fun x60 ex60 => ?_)
  have hf := zl_of hf x60 ex60
  refine va_put (D := D) (ci := 1) (v := .long x60) (ty := .long) (C := RX1) (T := TX1) (N := 2) hx hb hts ui_X1 tyX1 tyX1_ok nmX1 hown hK hP hD hS 0 rfl rfl 0 (by decide) (hts _ fl_X1_7) (fun _ h9 => h9) rfl rfl rfl rfl (Nat.le_of_ble_eq_true rfl) dX1_put_60 (fun H locs hP hD hS => ?_)
  have hP : va_P D vwCl [(h, .inr (1, [.long x60, .long m_h_denominator]))] H := hP
  have hD : va_D A [(h, .inr (1, [.long x60, .long m_h_denominator]))] := hD
  refine lv_aload_n hx hb dX1_put_63 rfl (lv_at hl 1 rfl) ?_
  refine lv_lload hx hb dX1_put_64 (lv_at hl 0 rfl) ?_
  refine lv_lload_n hx hb dX1_put_66 rfl (lv_at hl 3 rfl) ?_
  refine lv_lmul hx hb dX1_put_67 ?_
  refine lv_lload hx hb dX1_put_68 (lv_at hl 4 rfl) ?_
  obtain ⟨hne, hf⟩ := znl_of hf
  refine lv_ldiv hx hb dX1_put_70 hne ?_
  refine lv_topl (fun x71 ex71 => ?_)
  have hf := zl_of hf x71 ex71
  refine va_put (D := D) (ci := 1) (v := .long x71) (ty := .long) (C := RX1) (T := TX1) (N := 2) hx hb hts ui_X1 tyX1 tyX1_ok nmX1 hown hK hP hD hS 0 rfl rfl 1 (by decide) (hts _ fl_X1_13) (fun _ h9 => h9) rfl rfl rfl rfl (Nat.le_of_ble_eq_true rfl) dX1_put_71 (fun H locs hP hD hS => ?_)
  have hP : va_P D vwCl [(h, .inr (1, [.long x60, .long x71]))] H := hP
  have hD : va_D A [(h, .inr (1, [.long x60, .long x71]))] := hD
  obtain rfl := Option.some.inj hf
  exact ret_v C hP hD hS dX1_put_74
def f_X1_put (v1 : Int64) (v3 : Int64) : Option (Int64 × Int64) :=
  zb (f_J9_abs_067f4 v1) fun z1 =>
  zb (f_J9_abs_067f4 v3) fun z5 =>
  zb (f_X1_commonDivisor z1 z5) fun z8 =>
  if (lg_cmp v3 (0 : Int64)) = 0 then
    f_X1_put_J26
  else
    if (lg_cmp z8 (0 : Int64)) = 0 then
      f_X1_put_J26
    else
      if 0 ≤ (lg_cmp v3 (0 : Int64)) then
        f_X1_put_J50 v1 v3 z8 (1 : Int64)
      else
        f_X1_put_J50 v1 v3 z8 (-1 : Int64)
set_option maxHeartbeats 4000000 in
set_option maxRecDepth 100000 in
theorem k_X1_put {h : Nat} {v1 : Int64} {v3 : Int64} {m_h_numerator : Int64} {m_h_denominator : Int64} {z : Int64 × Int64} (C : cx p s m args meth c cX1_put 9 none RX1 D cy A) (hf : f_X1_put v1 v3 = some z) (hP : va_P D vwCl [(h, .inr (1, [.long m_h_numerator, .long m_h_denominator]))] H) (hD : va_D A [(h, .inr (1, [.long m_h_numerator, .long m_h_denominator]))]) (hS : va_S A s.heap H locs) (hl : lv_has ls 9 [(0, .ref h), (1, .long v1), (3, .long v3)]) : W p l e ({ frames := 1, cells := 0, slots := 0, locals := 26 } : Room) s m args below meth c H locs 0 0 (MQ below (kqv D cy [(h, .inr (1, [.long z.1, .long z.2]))] A) args s 0 0 A) (F0 m 0 ls []) := by
  obtain ⟨hx, hb, hr, hml, hown, hts, hlk, hK, hA, hN⟩ := id C
  unfold f_X1_put at hf
  refine lv_lload_n hx hb dX1_put_0 rfl (lv_at hl 1 rfl) ?_
  obtain ⟨z1, hz1, hf⟩ := zb_of hf
  refine goL (wr := [(h, .inr (1, [.long m_h_numerator, .long m_h_denominator]))]) (ws' := [(h, .inr (1, [.long m_h_numerator, .long m_h_denominator]))]) C (runS (n := 1) (As := [.long v1]) (rest := []) C (c_J9_abs_067f4 l D cy H.size v1 hz1) ml_X1_16 st_J9_abs_067f4 ii_J9 cd_J9_abs_067f4 hd_J9_abs_067f4 rfl rfl ⟨Nat.le_of_ble_eq_true rfl, Nat.le_of_ble_eq_true rfl⟩ (hP.sub [] rfl) (hD.sub [] (by decide) rfl) hS rfl hl.1 rfl (Nat.le_of_ble_eq_true rfl) dX1_put_1) hP hD hS [] [0] [0] rfl rfl (by decide) (by decide) rfl (by decide) (fun H locs hP hD hS => ?_)
  refine lv_lload_n hx hb dX1_put_4 rfl (lv_at hl 2 rfl) ?_
  obtain ⟨z5, hz5, hf⟩ := zb_of hf
  refine goL (wr := [(h, .inr (1, [.long m_h_numerator, .long m_h_denominator]))]) (ws' := [(h, .inr (1, [.long m_h_numerator, .long m_h_denominator]))]) C (runS (n := 1) (As := [.long v3]) (rest := [.long z1]) C (c_J9_abs_067f4 l D cy H.size v3 hz5) ml_X1_16 st_J9_abs_067f4 ii_J9 cd_J9_abs_067f4 hd_J9_abs_067f4 rfl rfl ⟨Nat.le_of_ble_eq_true rfl, Nat.le_of_ble_eq_true rfl⟩ (hP.sub [] rfl) (hD.sub [] (by decide) rfl) hS rfl hl.1 rfl (Nat.le_of_ble_eq_true rfl) dX1_put_5) hP hD hS [] [0] [0] rfl rfl (by decide) (by decide) rfl (by decide) (fun H locs hP hD hS => ?_)
  obtain ⟨z8, hz8, hf⟩ := zb_of hf
  refine goL (wr := [(h, .inr (1, [.long m_h_numerator, .long m_h_denominator]))]) (ws' := [(h, .inr (1, [.long m_h_numerator, .long m_h_denominator]))]) C (runS (n := 2) (As := [.long z1, .long z5]) (rest := []) C (c_X1_commonDivisor l D cy H.size z1 z5 hz8) ml_X1_22 st_X1_commonDivisor ii_X1 cd_X1_commonDivisor hd_X1_commonDivisor rfl rfl ⟨Nat.le_of_ble_eq_true rfl, Nat.le_of_ble_eq_true rfl⟩ (hP.sub [] rfl) (hD.sub [] (by decide) rfl) hS rfl hl.1 rfl (Nat.le_of_ble_eq_true rfl) dX1_put_8) hP hD hS [] [0] [0] rfl rfl (by decide) (by decide) rfl (by decide) (fun H locs hP hD hS => ?_)
  refine lv_lstore (lv' := [(5, .long z8), (0, .ref h), (1, .long v1), (3, .long v3)]) hx hb dX1_put_11 hl (by decide) rfl (fun ls hl => ?_)
  refine lv_lload_n hx hb dX1_put_13 rfl (lv_at hl 3 rfl) ?_
  refine lv_lconst (v := 0) hx hb dX1_put_14 (by decide) ?_
  refine W.lcmp hx hb dX1_put_15 ?_
  refine lv_if_eq (tgt := 26) hx hb dX1_put_16 (by decide) (fun c16 => ?_) (fun c16 => ?_)
  · have hf := zt c16 hf
    exact k_X1_put_J26 C hf hP hD hS (lv_sub hl [1] rfl)
  · have hf := zf c16 hf
    refine lv_lload hx hb dX1_put_19 (lv_at hl 0 rfl) ?_
    refine lv_lconst (v := 0) hx hb dX1_put_21 (by decide) ?_
    refine W.lcmp hx hb dX1_put_22 ?_
    refine lv_if_ne (tgt := 37) hx hb dX1_put_23 (by decide) (fun c23 => ?_) (fun c23 => ?_)
    · have hf := zf c23 hf
      refine lv_lload_n hx hb dX1_put_37 rfl (lv_at hl 3 rfl) ?_
      refine lv_lconst (v := 0) hx hb dX1_put_38 (by decide) ?_
      refine W.lcmp hx hb dX1_put_39 ?_
      refine lv_if_ge (tgt := 49) hx hb dX1_put_40 (by decide) (fun c40 => ?_) (fun c40 => ?_)
      · have hf := zt c40 hf
        refine lv_lconst (v := 1) hx hb dX1_put_49 (by decide) ?_
        exact k_X1_put_J50 C hf hP hD hS (lv_sub hl [1, 2, 3, 0] rfl)
      · have hf := zf c40 hf
        refine lv_ldc2 hx hb hown (hts _ kl_X1_26) dX1_put_43 ?_
        refine lv_goto (tgt := 50) hx hb dX1_put_46 (by decide) ?_
        exact k_X1_put_J50 C hf hP hD hS (lv_sub hl [1, 2, 3, 0] rfl)
    · have hf := zt c23 hf
      exact k_X1_put_J26 C hf hP hD hS (lv_sub hl [1] rfl)
set_option maxRecDepth 100000 in
theorem c_X1_put (l : Launch) (D : va_G) (cy : Nat → ClassId) (sz : Nat) (h : Nat) (v1 : Int64) (v3 : Int64) (m_h_numerator : Int64) (m_h_denominator : Int64) {z : Int64 × Int64} (hf : f_X1_put v1 v3 = some z) : Met l yX1_put (.code yX1_put cX1_put 9 none :: tb) ({ frames := 1, cells := 0, slots := 0, locals := 26 } : Room) (kp D cy sz [.ref h, .long v1, .long v3] [(h, .inr (1, [.long m_h_numerator, .long m_h_denominator]))]) (kqv D cy [(h, .inr (1, [.long z.1, .long z.2]))] (va_A [(h, .inr (1, [.long m_h_numerator, .long m_h_denominator]))] sz)) 0 0 (va_A [(h, .inr (1, [.long m_h_numerator, .long m_h_denominator]))] sz) :=
  met_of (fun A => kqv D cy [(h, .inr (1, [.long z.1, .long z.2]))] A) (by decide +kernel) (Nat.le_of_ble_eq_true rfl) (fun p e s m below meth c A ls C hP hD hS hl => k_X1_put C hf hP hD hS hl)
theorem hd_X1_put : yX1_put.cls ≠ "java/lang/invoke/MethodHandle" ∧ yX1_put.cls ≠ "java/lang/invoke/VarHandle" ∧ (parseMethodDescriptor yX1_put.desc).map (fun d => d.parameters.length) = some 2 := by decide +kernel
def f_X1_side (v1 : Int32) (m_h_numerator : Int64) (m_h_denominator : Int64) : Option (Int64) :=
  if v1 = 0 then
    some m_h_numerator
  else
    some m_h_denominator
set_option maxHeartbeats 4000000 in
set_option maxRecDepth 100000 in
theorem k_X1_side {h : Nat} {v1 : Int32} {m_h_numerator : Int64} {m_h_denominator : Int64} {z : Int64} (C : cx p s m args meth c cX1_side 2 (some .long) RX1 D cy A) (hf : f_X1_side v1 m_h_numerator m_h_denominator = some z) (hP : va_P D vwCl [(h, .inr (1, [.long m_h_numerator, .long m_h_denominator]))] H) (hD : va_D A [(h, .inr (1, [.long m_h_numerator, .long m_h_denominator]))]) (hS : va_S A s.heap H locs) (hl : lv_has ls 2 [(0, .ref h), (1, .int v1)]) : W p l e ({ frames := 0, cells := 0, slots := 0, locals := 0 } : Room) s m args below meth c H locs 0 0 (MQ below (kql D cy [(h, .inr (1, [.long m_h_numerator, .long m_h_denominator]))] z A) args s 0 0 A) (F0 m 0 ls []) := by
  obtain ⟨hx, hb, hr, hml, hown, hts, hlk, hK, hA, hN⟩ := id C
  unfold f_X1_side at hf
  refine lv_iload_n hx hb dX1_side_0 rfl (lv_at hl 1 rfl) ?_
  refine lv_if_ne (tgt := 11) hx hb dX1_side_1 (by decide) (fun c1 => ?_) (fun c1 => ?_)
  · have hf := zf c1 hf
    refine lv_aload_n hx hb dX1_side_11 rfl (lv_at hl 0 rfl) ?_
    refine va_get (D := D) (ci := 1) (v := .long m_h_denominator) (C := RX1) (T := TX1) (N := 2) hx hb hts ui_X1 hown hK hP 0 rfl rfl 1 (by decide) (hts _ fl_X1_13) (fun _ h9 => h9) rfl dX1_side_12 ?_
    obtain rfl := Option.some.inj hf
    exact ret_l C hP hD hS dX1_side_15
  · have hf := zt c1 hf
    refine lv_aload_n hx hb dX1_side_4 rfl (lv_at hl 0 rfl) ?_
    refine va_get (D := D) (ci := 1) (v := .long m_h_numerator) (C := RX1) (T := TX1) (N := 2) hx hb hts ui_X1 hown hK hP 0 rfl rfl 0 (by decide) (hts _ fl_X1_7) (fun _ h9 => h9) rfl dX1_side_5 ?_
    refine lv_goto (tgt := 15) hx hb dX1_side_8 (by decide) ?_
    obtain rfl := Option.some.inj hf
    exact ret_l C hP hD hS dX1_side_15
set_option maxRecDepth 100000 in
theorem c_X1_side (l : Launch) (D : va_G) (cy : Nat → ClassId) (sz : Nat) (h : Nat) (v1 : Int32) (m_h_numerator : Int64) (m_h_denominator : Int64) {z : Int64} (hf : f_X1_side v1 m_h_numerator m_h_denominator = some z) : Met l yX1_side (.code yX1_side cX1_side 2 (some .long) :: tb) ({ frames := 0, cells := 0, slots := 0, locals := 0 } : Room) (kp D cy sz [.ref h, .int v1] [(h, .inr (1, [.long m_h_numerator, .long m_h_denominator]))]) (kql D cy [(h, .inr (1, [.long m_h_numerator, .long m_h_denominator]))] z (va_A [(h, .inr (1, [.long m_h_numerator, .long m_h_denominator]))] sz)) 0 0 (va_A [(h, .inr (1, [.long m_h_numerator, .long m_h_denominator]))] sz) :=
  met_of (fun A => kql D cy [(h, .inr (1, [.long m_h_numerator, .long m_h_denominator]))] z A) (by decide +kernel) (Nat.le_of_ble_eq_true rfl) (fun p e s m below meth c A ls C hP hD hS hl => k_X1_side C hf hP hD hS hl)
theorem hd_X1_side : yX1_side.cls ≠ "java/lang/invoke/MethodHandle" ∧ yX1_side.cls ≠ "java/lang/invoke/VarHandle" ∧ (parseMethodDescriptor yX1_side.desc).map (fun d => d.parameters.length) = some 1 := by decide +kernel
def f_X2_begin (v1 : Int32) (v2 : Int32) (v3 : Int32) : Option (Int32 × Int32 × Int32 × Int32 × Int32 × Int32) :=
  some (v1, v2, v3, (0 : Int32), (0 : Int32), (-4 : Int32))
set_option maxHeartbeats 4000000 in
set_option maxRecDepth 100000 in
theorem k_X2_begin {h : Nat} {v1 : Int32} {v2 : Int32} {v3 : Int32} {m_h_order : Int32} {m_h_volt : Int32} {m_h_ref : Int32} {m_h_s : Int32} {m_h_t : Int32} {m_h_bit : Int32} {z : Int32 × Int32 × Int32 × Int32 × Int32 × Int32} (C : cx p s m args meth c cX2_begin 4 none RX2 D cy A) (hf : f_X2_begin v1 v2 v3 = some z) (hP : va_P D vwCl [(h, .inr (2, [.int m_h_order, .int m_h_volt, .int m_h_ref, .int m_h_s, .int m_h_t, .int m_h_bit]))] H) (hD : va_D A [(h, .inr (2, [.int m_h_order, .int m_h_volt, .int m_h_ref, .int m_h_s, .int m_h_t, .int m_h_bit]))]) (hS : va_S A s.heap H locs) (hl : lv_has ls 4 [(0, .ref h), (1, .int v1), (2, .int v2), (3, .int v3)]) : W p l e ({ frames := 0, cells := 0, slots := 0, locals := 0 } : Room) s m args below meth c H locs 0 0 (MQ below (kqv D cy [(h, .inr (2, [.int z.1, .int z.2.1, .int z.2.2.1, .int z.2.2.2.1, .int z.2.2.2.2.1, .int z.2.2.2.2.2]))] A) args s 0 0 A) (F0 m 0 ls []) := by
  obtain ⟨hx, hb, hr, hml, hown, hts, hlk, hK, hA, hN⟩ := id C
  unfold f_X2_begin at hf
  refine lv_aload_n hx hb dX2_begin_0 rfl (lv_at hl 0 rfl) ?_
  refine lv_iload_n hx hb dX2_begin_1 rfl (lv_at hl 1 rfl) ?_
  refine va_put (D := D) (ci := 2) (v := .int v1) (ty := .int) (C := RX2) (T := TX2) (N := 6) hx hb hts ui_X2 tyX2 tyX2_ok nmX2 hown hK hP hD hS 0 rfl rfl 0 (by decide) (hts _ fl_X2_9) (fun _ h9 => h9) rfl rfl rfl rfl (Nat.le_of_ble_eq_true rfl) dX2_begin_2 (fun H locs hP hD hS => ?_)
  have hP : va_P D vwCl [(h, .inr (2, [.int v1, .int m_h_volt, .int m_h_ref, .int m_h_s, .int m_h_t, .int m_h_bit]))] H := hP
  have hD : va_D A [(h, .inr (2, [.int v1, .int m_h_volt, .int m_h_ref, .int m_h_s, .int m_h_t, .int m_h_bit]))] := hD
  refine lv_aload_n hx hb dX2_begin_5 rfl (lv_at hl 0 rfl) ?_
  refine lv_iload_n hx hb dX2_begin_6 rfl (lv_at hl 2 rfl) ?_
  refine va_put (D := D) (ci := 2) (v := .int v2) (ty := .int) (C := RX2) (T := TX2) (N := 6) hx hb hts ui_X2 tyX2 tyX2_ok nmX2 hown hK hP hD hS 0 rfl rfl 1 (by decide) (hts _ fl_X2_15) (fun _ h9 => h9) rfl rfl rfl rfl (Nat.le_of_ble_eq_true rfl) dX2_begin_7 (fun H locs hP hD hS => ?_)
  have hP : va_P D vwCl [(h, .inr (2, [.int v1, .int v2, .int m_h_ref, .int m_h_s, .int m_h_t, .int m_h_bit]))] H := hP
  have hD : va_D A [(h, .inr (2, [.int v1, .int v2, .int m_h_ref, .int m_h_s, .int m_h_t, .int m_h_bit]))] := hD
  refine lv_aload_n hx hb dX2_begin_10 rfl (lv_at hl 0 rfl) ?_
  refine lv_iload_n hx hb dX2_begin_11 rfl (lv_at hl 3 rfl) ?_
  refine va_put (D := D) (ci := 2) (v := .int v3) (ty := .int) (C := RX2) (T := TX2) (N := 6) hx hb hts ui_X2 tyX2 tyX2_ok nmX2 hown hK hP hD hS 0 rfl rfl 2 (by decide) (hts _ fl_X2_18) (fun _ h9 => h9) rfl rfl rfl rfl (Nat.le_of_ble_eq_true rfl) dX2_begin_12 (fun H locs hP hD hS => ?_)
  have hP : va_P D vwCl [(h, .inr (2, [.int v1, .int v2, .int v3, .int m_h_s, .int m_h_t, .int m_h_bit]))] H := hP
  have hD : va_D A [(h, .inr (2, [.int v1, .int v2, .int v3, .int m_h_s, .int m_h_t, .int m_h_bit]))] := hD
  refine lv_aload_n hx hb dX2_begin_15 rfl (lv_at hl 0 rfl) ?_
  refine lv_iconst (v := 0) hx hb dX2_begin_16 (by decide) ?_
  refine va_put (D := D) (ci := 2) (v := .int (0 : Int32)) (ty := .int) (C := RX2) (T := TX2) (N := 6) hx hb hts ui_X2 tyX2 tyX2_ok nmX2 hown hK hP hD hS 0 rfl rfl 3 (by decide) (hts _ fl_X2_21) (fun _ h9 => h9) rfl rfl rfl rfl (Nat.le_of_ble_eq_true rfl) dX2_begin_17 (fun H locs hP hD hS => ?_)
  have hP : va_P D vwCl [(h, .inr (2, [.int v1, .int v2, .int v3, .int (0 : Int32), .int m_h_t, .int m_h_bit]))] H := hP
  have hD : va_D A [(h, .inr (2, [.int v1, .int v2, .int v3, .int (0 : Int32), .int m_h_t, .int m_h_bit]))] := hD
  refine lv_aload_n hx hb dX2_begin_20 rfl (lv_at hl 0 rfl) ?_
  refine lv_iconst (v := 0) hx hb dX2_begin_21 (by decide) ?_
  refine va_put (D := D) (ci := 2) (v := .int (0 : Int32)) (ty := .int) (C := RX2) (T := TX2) (N := 6) hx hb hts ui_X2 tyX2 tyX2_ok nmX2 hown hK hP hD hS 0 rfl rfl 4 (by decide) (hts _ fl_X2_24) (fun _ h9 => h9) rfl rfl rfl rfl (Nat.le_of_ble_eq_true rfl) dX2_begin_22 (fun H locs hP hD hS => ?_)
  have hP : va_P D vwCl [(h, .inr (2, [.int v1, .int v2, .int v3, .int (0 : Int32), .int (0 : Int32), .int m_h_bit]))] H := hP
  have hD : va_D A [(h, .inr (2, [.int v1, .int v2, .int v3, .int (0 : Int32), .int (0 : Int32), .int m_h_bit]))] := hD
  refine lv_aload_n hx hb dX2_begin_25 rfl (lv_at hl 0 rfl) ?_
  refine lv_bipush (v := -4) hx hb dX2_begin_26 (by decide) ?_
  refine va_put (D := D) (ci := 2) (v := .int (-4 : Int32)) (ty := .int) (C := RX2) (T := TX2) (N := 6) hx hb hts ui_X2 tyX2 tyX2_ok nmX2 hown hK hP hD hS 0 rfl rfl 5 (by decide) (hts _ fl_X2_27) (fun _ h9 => h9) rfl rfl rfl rfl (Nat.le_of_ble_eq_true rfl) dX2_begin_28 (fun H locs hP hD hS => ?_)
  have hP : va_P D vwCl [(h, .inr (2, [.int v1, .int v2, .int v3, .int (0 : Int32), .int (0 : Int32), .int (-4 : Int32)]))] H := hP
  have hD : va_D A [(h, .inr (2, [.int v1, .int v2, .int v3, .int (0 : Int32), .int (0 : Int32), .int (-4 : Int32)]))] := hD
  obtain rfl := Option.some.inj hf
  exact ret_v C hP hD hS dX2_begin_31
set_option maxRecDepth 100000 in
theorem c_X2_begin (l : Launch) (D : va_G) (cy : Nat → ClassId) (sz : Nat) (h : Nat) (v1 : Int32) (v2 : Int32) (v3 : Int32) (m_h_order : Int32) (m_h_volt : Int32) (m_h_ref : Int32) (m_h_s : Int32) (m_h_t : Int32) (m_h_bit : Int32) {z : Int32 × Int32 × Int32 × Int32 × Int32 × Int32} (hf : f_X2_begin v1 v2 v3 = some z) : Met l yX2_begin (.code yX2_begin cX2_begin 4 none :: tb) ({ frames := 0, cells := 0, slots := 0, locals := 0 } : Room) (kp D cy sz [.ref h, .int v1, .int v2, .int v3] [(h, .inr (2, [.int m_h_order, .int m_h_volt, .int m_h_ref, .int m_h_s, .int m_h_t, .int m_h_bit]))]) (kqv D cy [(h, .inr (2, [.int z.1, .int z.2.1, .int z.2.2.1, .int z.2.2.2.1, .int z.2.2.2.2.1, .int z.2.2.2.2.2]))] (va_A [(h, .inr (2, [.int m_h_order, .int m_h_volt, .int m_h_ref, .int m_h_s, .int m_h_t, .int m_h_bit]))] sz)) 0 0 (va_A [(h, .inr (2, [.int m_h_order, .int m_h_volt, .int m_h_ref, .int m_h_s, .int m_h_t, .int m_h_bit]))] sz) :=
  met_of (fun A => kqv D cy [(h, .inr (2, [.int z.1, .int z.2.1, .int z.2.2.1, .int z.2.2.2.1, .int z.2.2.2.2.1, .int z.2.2.2.2.2]))] A) (by decide +kernel) (Nat.le_of_ble_eq_true rfl) (fun p e s m below meth c A ls C hP hD hS hl => k_X2_begin C hf hP hD hS hl)
theorem hd_X2_begin : yX2_begin.cls ≠ "java/lang/invoke/MethodHandle" ∧ yX2_begin.cls ≠ "java/lang/invoke/VarHandle" ∧ (parseMethodDescriptor yX2_begin.desc).map (fun d => d.parameters.length) = some 3 := by decide +kernel
def f_X2_given (m_h_ref : Int32) (m_h_bit : Int32) : Option (Int32) :=
  if m_h_bit = (-4 : Int32) then
    some (0 : Int32)
  else
    if m_h_bit = (1 : Int32) then
      some m_h_ref
    else
      some (-m_h_ref)
set_option maxHeartbeats 4000000 in
set_option maxRecDepth 100000 in
theorem k_X2_given {h : Nat} {m_h_order : Int32} {m_h_volt : Int32} {m_h_ref : Int32} {m_h_s : Int32} {m_h_t : Int32} {m_h_bit : Int32} {z : Int32} (C : cx p s m args meth c cX2_given 1 (some .int) RX2 D cy A) (hf : f_X2_given m_h_ref m_h_bit = some z) (hP : va_P D vwCl [(h, .inr (2, [.int m_h_order, .int m_h_volt, .int m_h_ref, .int m_h_s, .int m_h_t, .int m_h_bit]))] H) (hD : va_D A [(h, .inr (2, [.int m_h_order, .int m_h_volt, .int m_h_ref, .int m_h_s, .int m_h_t, .int m_h_bit]))]) (hS : va_S A s.heap H locs) (hl : lv_has ls 1 [(0, .ref h)]) : W p l e ({ frames := 0, cells := 0, slots := 0, locals := 0 } : Room) s m args below meth c H locs 0 0 (MQ below (kqi D cy [(h, .inr (2, [.int m_h_order, .int m_h_volt, .int m_h_ref, .int m_h_s, .int m_h_t, .int m_h_bit]))] z A) args s 0 0 A) (F0 m 0 ls []) := by
  obtain ⟨hx, hb, hr, hml, hown, hts, hlk, hK, hA, hN⟩ := id C
  unfold f_X2_given at hf
  refine lv_aload_n hx hb dX2_given_0 rfl (lv_at hl 0 rfl) ?_
  refine va_get (D := D) (ci := 2) (v := .int m_h_bit) (C := RX2) (T := TX2) (N := 6) hx hb hts ui_X2 hown hK hP 0 rfl rfl 5 (by decide) (hts _ fl_X2_27) (fun _ h9 => h9) rfl dX2_given_1 ?_
  refine lv_bipush (v := -4) hx hb dX2_given_4 (by decide) ?_
  refine lv_icmp_ne (tgt := 11) hx hb dX2_given_6 (by decide) (fun c6 => ?_) (fun c6 => ?_)
  · have hf := zf c6 hf
    refine lv_aload_n hx hb dX2_given_11 rfl (lv_at hl 0 rfl) ?_
    refine va_get (D := D) (ci := 2) (v := .int m_h_bit) (C := RX2) (T := TX2) (N := 6) hx hb hts ui_X2 hown hK hP 0 rfl rfl 5 (by decide) (hts _ fl_X2_27) (fun _ h9 => h9) rfl dX2_given_12 ?_
    refine lv_iconst (v := 1) hx hb dX2_given_15 (by decide) ?_
    refine lv_icmp_ne (tgt := 26) hx hb dX2_given_16 (by decide) (fun c16 => ?_) (fun c16 => ?_)
    · have hf := zf c16 hf
      refine lv_aload_n hx hb dX2_given_26 rfl (lv_at hl 0 rfl) ?_
      refine va_get (D := D) (ci := 2) (v := .int m_h_ref) (C := RX2) (T := TX2) (N := 6) hx hb hts ui_X2 hown hK hP 0 rfl rfl 2 (by decide) (hts _ fl_X2_18) (fun _ h9 => h9) rfl dX2_given_27 ?_
      refine lv_ineg hx hb dX2_given_30 ?_
      obtain rfl := Option.some.inj hf
      exact ret_i C hP hD hS dX2_given_31
    · have hf := zt c16 hf
      refine lv_aload_n hx hb dX2_given_19 rfl (lv_at hl 0 rfl) ?_
      refine va_get (D := D) (ci := 2) (v := .int m_h_ref) (C := RX2) (T := TX2) (N := 6) hx hb hts ui_X2 hown hK hP 0 rfl rfl 2 (by decide) (hts _ fl_X2_18) (fun _ h9 => h9) rfl dX2_given_20 ?_
      refine lv_goto (tgt := 31) hx hb dX2_given_23 (by decide) ?_
      obtain rfl := Option.some.inj hf
      exact ret_i C hP hD hS dX2_given_31
  · have hf := zt c6 hf
    refine lv_iconst (v := 0) hx hb dX2_given_9 (by decide) ?_
    obtain rfl := Option.some.inj hf
    exact ret_i C hP hD hS dX2_given_10
set_option maxRecDepth 100000 in
theorem c_X2_given (l : Launch) (D : va_G) (cy : Nat → ClassId) (sz : Nat) (h : Nat) (m_h_order : Int32) (m_h_volt : Int32) (m_h_ref : Int32) (m_h_s : Int32) (m_h_t : Int32) (m_h_bit : Int32) {z : Int32} (hf : f_X2_given m_h_ref m_h_bit = some z) : Met l yX2_given (.code yX2_given cX2_given 1 (some .int) :: tb) ({ frames := 0, cells := 0, slots := 0, locals := 0 } : Room) (kp D cy sz [.ref h] [(h, .inr (2, [.int m_h_order, .int m_h_volt, .int m_h_ref, .int m_h_s, .int m_h_t, .int m_h_bit]))]) (kqi D cy [(h, .inr (2, [.int m_h_order, .int m_h_volt, .int m_h_ref, .int m_h_s, .int m_h_t, .int m_h_bit]))] z (va_A [(h, .inr (2, [.int m_h_order, .int m_h_volt, .int m_h_ref, .int m_h_s, .int m_h_t, .int m_h_bit]))] sz)) 0 0 (va_A [(h, .inr (2, [.int m_h_order, .int m_h_volt, .int m_h_ref, .int m_h_s, .int m_h_t, .int m_h_bit]))] sz) :=
  met_of (fun A => kqi D cy [(h, .inr (2, [.int m_h_order, .int m_h_volt, .int m_h_ref, .int m_h_s, .int m_h_t, .int m_h_bit]))] z A) (by decide +kernel) (Nat.le_of_ble_eq_true rfl) (fun p e s m below meth c A ls C hP hD hS hl => k_X2_given C hf hP hD hS hl)
theorem hd_X2_given : yX2_given.cls ≠ "java/lang/invoke/MethodHandle" ∧ yX2_given.cls ≠ "java/lang/invoke/VarHandle" ∧ (parseMethodDescriptor yX2_given.desc).map (fun d => d.parameters.length) = some 0 := by decide +kernel
def f_X2_cut (v0 : Int32) : Option (Int32) :=
  zb (f_J9_min_7cf53 (1000000 : Int32) v0) fun z5 =>
  zb (f_J9_max_7cf53 (-1000000 : Int32) z5) fun z8 =>
  some z8
set_option maxHeartbeats 4000000 in
set_option maxRecDepth 100000 in
theorem k_X2_cut {v0 : Int32} {z : Int32} (C : cx p s m args meth c cX2_cut 1 (some .int) RX2 D cy A) (hf : f_X2_cut v0 = some z) (hP : va_P D vwCl [] H) (hD : va_D A []) (hS : va_S A s.heap H locs) (hl : lv_has ls 1 [(0, .int v0)]) : W p l e ({ frames := 1, cells := 0, slots := 0, locals := 21 } : Room) s m args below meth c H locs 0 0 (MQ below (kqi D cy [] z A) args s 0 0 A) (F0 m 0 ls []) := by
  obtain ⟨hx, hb, hr, hml, hown, hts, hlk, hK, hA, hN⟩ := id C
  unfold f_X2_cut at hf
  refine lv_ldc hx hb hown (hts _ kc_X2_38) dX2_cut_0 ?_
  refine lv_ldc hx hb hown (hts _ kc_X2_39) dX2_cut_2 ?_
  refine lv_iload_n hx hb dX2_cut_4 rfl (lv_at hl 0 rfl) ?_
  obtain ⟨z5, hz5, hf⟩ := zb_of hf
  refine goI (wr := []) (ws' := []) C (runS (n := 2) (As := [.int (1000000 : Int32), .int v0]) (rest := [.int (-1000000 : Int32)]) C (c_J9_min_7cf53 l D cy H.size (1000000 : Int32) v0 hz5) ml_X2_40 st_J9_min_7cf53 ii_J9 cd_J9_min_7cf53 hd_J9_min_7cf53 rfl rfl ⟨Nat.le_of_ble_eq_true rfl, Nat.le_of_ble_eq_true rfl⟩ (hP.sub [] rfl) (hD.sub [] (by decide) rfl) hS rfl hl.1 rfl (Nat.le_of_ble_eq_true rfl) dX2_cut_5) hP hD hS [] [] [] rfl rfl (by decide) (by decide) rfl (by decide) (fun H locs hP hD hS => ?_)
  obtain ⟨z8, hz8, hf⟩ := zb_of hf
  refine goI (wr := []) (ws' := []) C (runS (n := 2) (As := [.int (-1000000 : Int32), .int z5]) (rest := []) C (c_J9_max_7cf53 l D cy H.size (-1000000 : Int32) z5 hz8) ml_X2_46 st_J9_max_7cf53 ii_J9 cd_J9_max_7cf53 hd_J9_max_7cf53 rfl rfl ⟨Nat.le_of_ble_eq_true rfl, Nat.le_of_ble_eq_true rfl⟩ (hP.sub [] rfl) (hD.sub [] (by decide) rfl) hS rfl hl.1 rfl (Nat.le_of_ble_eq_true rfl) dX2_cut_8) hP hD hS [] [] [] rfl rfl (by decide) (by decide) rfl (by decide) (fun H locs hP hD hS => ?_)
  obtain rfl := Option.some.inj hf
  exact ret_i C hP hD hS dX2_cut_11
set_option maxRecDepth 100000 in
theorem c_X2_cut (l : Launch) (D : va_G) (cy : Nat → ClassId) (sz : Nat) (v0 : Int32) {z : Int32} (hf : f_X2_cut v0 = some z) : Met l yX2_cut (.code yX2_cut cX2_cut 1 (some .int) :: tb) ({ frames := 1, cells := 0, slots := 0, locals := 21 } : Room) (kp D cy sz [.int v0] []) (kqi D cy [] z (va_A [] sz)) 0 0 (va_A [] sz) :=
  met_of (fun A => kqi D cy [] z A) (by decide +kernel) (Nat.le_of_ble_eq_true rfl) (fun p e s m below meth c A ls C hP hD hS hl => k_X2_cut C hf hP hD hS hl)
theorem hd_X2_cut : yX2_cut.cls ≠ "java/lang/invoke/MethodHandle" ∧ yX2_cut.cls ≠ "java/lang/invoke/VarHandle" ∧ (parseMethodDescriptor yX2_cut.desc).map (fun d => d.parameters.length) = some 1 := by decide +kernel
def f_X2_tick_J104 (m_h_s : Int32) (m_h_t : Int32) (m_h_bit : Int32) : Option (Int32 × Int32 × Int32) :=
  zb (f_X2_cut m_h_s) fun z109 =>
  zb (f_X2_cut m_h_t) fun z120 =>
  some (z109, z120, m_h_bit)
set_option maxHeartbeats 4000000 in
set_option maxRecDepth 100000 in
theorem k_X2_tick_J104 {h : Nat} {m_h_order : Int32} {m_h_volt : Int32} {m_h_ref : Int32} {m_h_s : Int32} {m_h_t : Int32} {m_h_bit : Int32} {z : Int32 × Int32 × Int32} (C : cx p s m args meth c cX2_tick 2 none RX2 D cy A) (hf : f_X2_tick_J104 m_h_s m_h_t m_h_bit = some z) (hP : va_P D vwCl [(h, .inr (2, [.int m_h_order, .int m_h_volt, .int m_h_ref, .int m_h_s, .int m_h_t, .int m_h_bit]))] H) (hD : va_D A [(h, .inr (2, [.int m_h_order, .int m_h_volt, .int m_h_ref, .int m_h_s, .int m_h_t, .int m_h_bit]))]) (hS : va_S A s.heap H locs) (hl : lv_has ls 2 [(0, .ref h)]) : W p l e ({ frames := 2, cells := 0, slots := 0, locals := 41 } : Room) s m args below meth c H locs 0 0 (MQ below (kqv D cy [(h, .inr (2, [.int m_h_order, .int m_h_volt, .int m_h_ref, .int z.1, .int z.2.1, .int z.2.2]))] A) args s 0 0 A) (F0 m 104 ls []) := by
  obtain ⟨hx, hb, hr, hml, hown, hts, hlk, hK, hA, hN⟩ := id C
  unfold f_X2_tick_J104 at hf
  refine lv_aload_n hx hb dX2_tick_104 rfl (lv_at hl 0 rfl) ?_
  refine lv_aload_n hx hb dX2_tick_105 rfl (lv_at hl 0 rfl) ?_
  refine va_get (D := D) (ci := 2) (v := .int m_h_s) (C := RX2) (T := TX2) (N := 6) hx hb hts ui_X2 hown hK hP 0 rfl rfl 3 (by decide) (hts _ fl_X2_21) (fun _ h9 => h9) rfl dX2_tick_106 ?_
  obtain ⟨z109, hz109, hf⟩ := zb_of hf
  refine goI (wr := [(h, .inr (2, [.int m_h_order, .int m_h_volt, .int m_h_ref, .int m_h_s, .int m_h_t, .int m_h_bit]))]) (ws' := [(h, .inr (2, [.int m_h_order, .int m_h_volt, .int m_h_ref, .int m_h_s, .int m_h_t, .int m_h_bit]))]) C (runS (n := 1) (As := [.int m_h_s]) (rest := [.ref h]) C (c_X2_cut l D cy H.size m_h_s hz109) ml_X2_34 st_X2_cut ii_X2 cd_X2_cut hd_X2_cut rfl rfl ⟨Nat.le_of_ble_eq_true rfl, Nat.le_of_ble_eq_true rfl⟩ (hP.sub [] rfl) (hD.sub [] (by decide) rfl) hS rfl hl.1 rfl (Nat.le_of_ble_eq_true rfl) dX2_tick_109) hP hD hS [] [0] [0] rfl rfl (by decide) (by decide) rfl (by decide) (fun H locs hP hD hS => ?_)
  refine va_put (D := D) (ci := 2) (v := .int z109) (ty := .int) (C := RX2) (T := TX2) (N := 6) hx hb hts ui_X2 tyX2 tyX2_ok nmX2 hown hK hP hD hS 0 rfl rfl 3 (by decide) (hts _ fl_X2_21) (fun _ h9 => h9) rfl rfl rfl rfl (Nat.le_of_ble_eq_true rfl) dX2_tick_112 (fun H locs hP hD hS => ?_)
  have hP : va_P D vwCl [(h, .inr (2, [.int m_h_order, .int m_h_volt, .int m_h_ref, .int z109, .int m_h_t, .int m_h_bit]))] H := hP
  have hD : va_D A [(h, .inr (2, [.int m_h_order, .int m_h_volt, .int m_h_ref, .int z109, .int m_h_t, .int m_h_bit]))] := hD
  refine lv_aload_n hx hb dX2_tick_115 rfl (lv_at hl 0 rfl) ?_
  refine lv_aload_n hx hb dX2_tick_116 rfl (lv_at hl 0 rfl) ?_
  refine va_get (D := D) (ci := 2) (v := .int m_h_t) (C := RX2) (T := TX2) (N := 6) hx hb hts ui_X2 hown hK hP 0 rfl rfl 4 (by decide) (hts _ fl_X2_24) (fun _ h9 => h9) rfl dX2_tick_117 ?_
  obtain ⟨z120, hz120, hf⟩ := zb_of hf
  refine goI (wr := [(h, .inr (2, [.int m_h_order, .int m_h_volt, .int m_h_ref, .int z109, .int m_h_t, .int m_h_bit]))]) (ws' := [(h, .inr (2, [.int m_h_order, .int m_h_volt, .int m_h_ref, .int z109, .int m_h_t, .int m_h_bit]))]) C (runS (n := 1) (As := [.int m_h_t]) (rest := [.ref h]) C (c_X2_cut l D cy H.size m_h_t hz120) ml_X2_34 st_X2_cut ii_X2 cd_X2_cut hd_X2_cut rfl rfl ⟨Nat.le_of_ble_eq_true rfl, Nat.le_of_ble_eq_true rfl⟩ (hP.sub [] rfl) (hD.sub [] (by decide) rfl) hS rfl hl.1 rfl (Nat.le_of_ble_eq_true rfl) dX2_tick_120) hP hD hS [] [0] [0] rfl rfl (by decide) (by decide) rfl (by decide) (fun H locs hP hD hS => ?_)
  refine va_put (D := D) (ci := 2) (v := .int z120) (ty := .int) (C := RX2) (T := TX2) (N := 6) hx hb hts ui_X2 tyX2 tyX2_ok nmX2 hown hK hP hD hS 0 rfl rfl 4 (by decide) (hts _ fl_X2_24) (fun _ h9 => h9) rfl rfl rfl rfl (Nat.le_of_ble_eq_true rfl) dX2_tick_123 (fun H locs hP hD hS => ?_)
  have hP : va_P D vwCl [(h, .inr (2, [.int m_h_order, .int m_h_volt, .int m_h_ref, .int z109, .int z120, .int m_h_bit]))] H := hP
  have hD : va_D A [(h, .inr (2, [.int m_h_order, .int m_h_volt, .int m_h_ref, .int z109, .int z120, .int m_h_bit]))] := hD
  obtain rfl := Option.some.inj hf
  exact ret_v C hP hD hS dX2_tick_126
def f_X2_tick_J101 (k0 : Int32) (m_h_s : Int32) (m_h_t : Int32) : Option (Int32 × Int32 × Int32) :=
  f_X2_tick_J104 m_h_s m_h_t k0
set_option maxHeartbeats 4000000 in
set_option maxRecDepth 100000 in
theorem k_X2_tick_J101 {h : Nat} {k0 : Int32} {m_h_order : Int32} {m_h_volt : Int32} {m_h_ref : Int32} {m_h_s : Int32} {m_h_t : Int32} {m_h_bit : Int32} {z : Int32 × Int32 × Int32} (C : cx p s m args meth c cX2_tick 2 none RX2 D cy A) (hf : f_X2_tick_J101 k0 m_h_s m_h_t = some z) (hP : va_P D vwCl [(h, .inr (2, [.int m_h_order, .int m_h_volt, .int m_h_ref, .int m_h_s, .int m_h_t, .int m_h_bit]))] H) (hD : va_D A [(h, .inr (2, [.int m_h_order, .int m_h_volt, .int m_h_ref, .int m_h_s, .int m_h_t, .int m_h_bit]))]) (hS : va_S A s.heap H locs) (hl : lv_has ls 2 [(0, .ref h)]) : W p l e ({ frames := 2, cells := 0, slots := 0, locals := 41 } : Room) s m args below meth c H locs 0 0 (MQ below (kqv D cy [(h, .inr (2, [.int m_h_order, .int m_h_volt, .int m_h_ref, .int z.1, .int z.2.1, .int z.2.2]))] A) args s 0 0 A) (F0 m 101 ls [.int k0, .ref h]) := by
  obtain ⟨hx, hb, hr, hml, hown, hts, hlk, hK, hA, hN⟩ := id C
  unfold f_X2_tick_J101 at hf
  refine va_put (D := D) (ci := 2) (v := .int k0) (ty := .int) (C := RX2) (T := TX2) (N := 6) hx hb hts ui_X2 tyX2 tyX2_ok nmX2 hown hK hP hD hS 0 rfl rfl 5 (by decide) (hts _ fl_X2_27) (fun _ h9 => h9) rfl rfl rfl rfl (Nat.le_of_ble_eq_true rfl) dX2_tick_101 (fun H locs hP hD hS => ?_)
  have hP : va_P D vwCl [(h, .inr (2, [.int m_h_order, .int m_h_volt, .int m_h_ref, .int m_h_s, .int m_h_t, .int k0]))] H := hP
  have hD : va_D A [(h, .inr (2, [.int m_h_order, .int m_h_volt, .int m_h_ref, .int m_h_s, .int m_h_t, .int k0]))] := hD
  exact k_X2_tick_J104 C hf hP hD hS (lv_sub hl [0] rfl)
def f_X2_tick_J34 (k0 : Int32) (m_h_ref : Int32) (m_h_s : Int32) (m_h_t : Int32) : Option (Int32 × Int32 × Int32) :=
  zb (f_X2_given m_h_ref k0) fun z43 =>
  zl (m_h_s - z43) fun x47 =>
  f_X2_tick_J104 x47 m_h_t k0
set_option maxHeartbeats 4000000 in
set_option maxRecDepth 100000 in
theorem k_X2_tick_J34 {h : Nat} {k0 : Int32} {m_h_order : Int32} {m_h_volt : Int32} {m_h_ref : Int32} {m_h_s : Int32} {m_h_t : Int32} {m_h_bit : Int32} {z : Int32 × Int32 × Int32} (C : cx p s m args meth c cX2_tick 2 none RX2 D cy A) (hf : f_X2_tick_J34 k0 m_h_ref m_h_s m_h_t = some z) (hP : va_P D vwCl [(h, .inr (2, [.int m_h_order, .int m_h_volt, .int m_h_ref, .int m_h_s, .int m_h_t, .int m_h_bit]))] H) (hD : va_D A [(h, .inr (2, [.int m_h_order, .int m_h_volt, .int m_h_ref, .int m_h_s, .int m_h_t, .int m_h_bit]))]) (hS : va_S A s.heap H locs) (hl : lv_has ls 2 [(0, .ref h)]) : W p l e ({ frames := 2, cells := 0, slots := 0, locals := 41 } : Room) s m args below meth c H locs 0 0 (MQ below (kqv D cy [(h, .inr (2, [.int m_h_order, .int m_h_volt, .int m_h_ref, .int z.1, .int z.2.1, .int z.2.2]))] A) args s 0 0 A) (F0 m 34 ls [.int k0, .ref h]) := by
  obtain ⟨hx, hb, hr, hml, hown, hts, hlk, hK, hA, hN⟩ := id C
  unfold f_X2_tick_J34 at hf
  refine va_put (D := D) (ci := 2) (v := .int k0) (ty := .int) (C := RX2) (T := TX2) (N := 6) hx hb hts ui_X2 tyX2 tyX2_ok nmX2 hown hK hP hD hS 0 rfl rfl 5 (by decide) (hts _ fl_X2_27) (fun _ h9 => h9) rfl rfl rfl rfl (Nat.le_of_ble_eq_true rfl) dX2_tick_34 (fun H locs hP hD hS => ?_)
  have hP : va_P D vwCl [(h, .inr (2, [.int m_h_order, .int m_h_volt, .int m_h_ref, .int m_h_s, .int m_h_t, .int k0]))] H := hP
  have hD : va_D A [(h, .inr (2, [.int m_h_order, .int m_h_volt, .int m_h_ref, .int m_h_s, .int m_h_t, .int k0]))] := hD
  refine lv_aload_n hx hb dX2_tick_37 rfl (lv_at hl 0 rfl) ?_
  refine lv_dup hx hb dX2_tick_38 rfl ?_
  refine va_get (D := D) (ci := 2) (v := .int m_h_s) (C := RX2) (T := TX2) (N := 6) hx hb hts ui_X2 hown hK hP 0 rfl rfl 3 (by decide) (hts _ fl_X2_21) (fun _ h9 => h9) rfl dX2_tick_39 ?_
  refine lv_aload_n hx hb dX2_tick_42 rfl (lv_at hl 0 rfl) ?_
  obtain ⟨z43, hz43, hf⟩ := zb_of hf
  refine goI (wr := []) (ws' := [(h, .inr (2, [.int m_h_order, .int m_h_volt, .int m_h_ref, .int m_h_s, .int m_h_t, .int k0]))]) C (runV (n := 0) (As := []) (rest := [.int m_h_s, .ref h]) C (c_X2_given l D cy H.size h m_h_order m_h_volt m_h_ref m_h_s m_h_t k0 hz43) ml_X2_30 im_X2_given se_X2_given ii_X2 cd_X2_given hd_X2_given rfl rfl ⟨Nat.le_of_ble_eq_true rfl, Nat.le_of_ble_eq_true rfl⟩ (hP.sub [0] rfl) (hD.sub [0] (by decide) rfl) hS rfl rfl rfl hl.1 rfl (Nat.le_of_ble_eq_true rfl) dX2_tick_43) hP hD hS [0] [] [0] rfl rfl (by decide) (by decide) rfl (by decide) (fun H locs hP hD hS => ?_)
  refine lv_isub hx hb dX2_tick_46 ?_
  refine lv_topi (fun x47 ex47 => ?_)
  have hf := zl_of hf x47 ex47
  refine va_put (D := D) (ci := 2) (v := .int x47) (ty := .int) (C := RX2) (T := TX2) (N := 6) hx hb hts ui_X2 tyX2 tyX2_ok nmX2 hown hK hP hD hS 0 rfl rfl 3 (by decide) (hts _ fl_X2_21) (fun _ h9 => h9) rfl rfl rfl rfl (Nat.le_of_ble_eq_true rfl) dX2_tick_47 (fun H locs hP hD hS => ?_)
  have hP : va_P D vwCl [(h, .inr (2, [.int m_h_order, .int m_h_volt, .int m_h_ref, .int x47, .int m_h_t, .int k0]))] H := hP
  have hD : va_D A [(h, .inr (2, [.int m_h_order, .int m_h_volt, .int m_h_ref, .int x47, .int m_h_t, .int k0]))] := hD
  refine lv_goto (tgt := 104) hx hb dX2_tick_50 (by decide) ?_
  exact k_X2_tick_J104 C hf hP hD hS (lv_sub hl [0] rfl)
def f_X2_tick (m_h_order : Int32) (m_h_volt : Int32) (m_h_ref : Int32) (m_h_s : Int32) (m_h_t : Int32) (m_h_bit : Int32) : Option (Int32 × Int32 × Int32) :=
  if m_h_order = (1 : Int32) then
    zl (m_h_s + m_h_volt) fun x18 =>
    if x18 < 0 then
      f_X2_tick_J34 (0 : Int32) m_h_ref x18 m_h_t
    else
      f_X2_tick_J34 (1 : Int32) m_h_ref x18 m_h_t
  else
    zb (f_X2_given m_h_ref m_h_bit) fun z54 =>
    zl (m_h_s + (m_h_volt - z54)) fun x70 =>
    zl (m_h_t + (x70 - z54)) fun x85 =>
    if x85 < 0 then
      f_X2_tick_J101 (0 : Int32) x70 x85
    else
      f_X2_tick_J101 (1 : Int32) x70 x85
set_option maxHeartbeats 4000000 in
set_option maxRecDepth 100000 in
theorem k_X2_tick {h : Nat} {m_h_order : Int32} {m_h_volt : Int32} {m_h_ref : Int32} {m_h_s : Int32} {m_h_t : Int32} {m_h_bit : Int32} {z : Int32 × Int32 × Int32} (C : cx p s m args meth c cX2_tick 2 none RX2 D cy A) (hf : f_X2_tick m_h_order m_h_volt m_h_ref m_h_s m_h_t m_h_bit = some z) (hP : va_P D vwCl [(h, .inr (2, [.int m_h_order, .int m_h_volt, .int m_h_ref, .int m_h_s, .int m_h_t, .int m_h_bit]))] H) (hD : va_D A [(h, .inr (2, [.int m_h_order, .int m_h_volt, .int m_h_ref, .int m_h_s, .int m_h_t, .int m_h_bit]))]) (hS : va_S A s.heap H locs) (hl : lv_has ls 2 [(0, .ref h)]) : W p l e ({ frames := 2, cells := 0, slots := 0, locals := 41 } : Room) s m args below meth c H locs 0 0 (MQ below (kqv D cy [(h, .inr (2, [.int m_h_order, .int m_h_volt, .int m_h_ref, .int z.1, .int z.2.1, .int z.2.2]))] A) args s 0 0 A) (F0 m 0 ls []) := by
  obtain ⟨hx, hb, hr, hml, hown, hts, hlk, hK, hA, hN⟩ := id C
  unfold f_X2_tick at hf
  refine lv_aload_n hx hb dX2_tick_0 rfl (lv_at hl 0 rfl) ?_
  refine va_get (D := D) (ci := 2) (v := .int m_h_order) (C := RX2) (T := TX2) (N := 6) hx hb hts ui_X2 hown hK hP 0 rfl rfl 0 (by decide) (hts _ fl_X2_9) (fun _ h9 => h9) rfl dX2_tick_1 ?_
  refine lv_iconst (v := 1) hx hb dX2_tick_4 (by decide) ?_
  refine lv_icmp_ne (tgt := 53) hx hb dX2_tick_5 (by decide) (fun c5 => ?_) (fun c5 => ?_)
  · have hf := zf c5 hf
    refine lv_aload_n hx hb dX2_tick_53 rfl (lv_at hl 0 rfl) ?_
    obtain ⟨z54, hz54, hf⟩ := zb_of hf
    refine goI (wr := []) (ws' := [(h, .inr (2, [.int m_h_order, .int m_h_volt, .int m_h_ref, .int m_h_s, .int m_h_t, .int m_h_bit]))]) C (runV (n := 0) (As := []) (rest := []) C (c_X2_given l D cy H.size h m_h_order m_h_volt m_h_ref m_h_s m_h_t m_h_bit hz54) ml_X2_30 im_X2_given se_X2_given ii_X2 cd_X2_given hd_X2_given rfl rfl ⟨Nat.le_of_ble_eq_true rfl, Nat.le_of_ble_eq_true rfl⟩ (hP.sub [0] rfl) (hD.sub [0] (by decide) rfl) hS rfl rfl rfl hl.1 rfl (Nat.le_of_ble_eq_true rfl) dX2_tick_54) hP hD hS [0] [] [0] rfl rfl (by decide) (by decide) rfl (by decide) (fun H locs hP hD hS => ?_)
    refine lv_istore_n (lv' := [(1, .int z54), (0, .ref h)]) hx hb dX2_tick_57 rfl hl (by decide) rfl (fun ls hl => ?_)
    refine lv_aload_n hx hb dX2_tick_58 rfl (lv_at hl 1 rfl) ?_
    refine lv_dup hx hb dX2_tick_59 rfl ?_
    refine va_get (D := D) (ci := 2) (v := .int m_h_s) (C := RX2) (T := TX2) (N := 6) hx hb hts ui_X2 hown hK hP 0 rfl rfl 3 (by decide) (hts _ fl_X2_21) (fun _ h9 => h9) rfl dX2_tick_60 ?_
    refine lv_aload_n hx hb dX2_tick_63 rfl (lv_at hl 1 rfl) ?_
    refine va_get (D := D) (ci := 2) (v := .int m_h_volt) (C := RX2) (T := TX2) (N := 6) hx hb hts ui_X2 hown hK hP 0 rfl rfl 1 (by decide) (hts _ fl_X2_15) (fun _ h9 => h9) rfl dX2_tick_64 ?_
    refine lv_iload_n hx hb dX2_tick_67 rfl (lv_at hl 0 rfl) ?_
    refine lv_isub hx hb dX2_tick_68 ?_
    refine lv_iadd hx hb dX2_tick_69 ?_
    refine lv_topi (fun x70 ex70 => ?_)
    have hf := zl_of hf x70 ex70
    refine va_put (D := D) (ci := 2) (v := .int x70) (ty := .int) (C := RX2) (T := TX2) (N := 6) hx hb hts ui_X2 tyX2 tyX2_ok nmX2 hown hK hP hD hS 0 rfl rfl 3 (by decide) (hts _ fl_X2_21) (fun _ h9 => h9) rfl rfl rfl rfl (Nat.le_of_ble_eq_true rfl) dX2_tick_70 (fun H locs hP hD hS => ?_)
    have hP : va_P D vwCl [(h, .inr (2, [.int m_h_order, .int m_h_volt, .int m_h_ref, .int x70, .int m_h_t, .int m_h_bit]))] H := hP
    have hD : va_D A [(h, .inr (2, [.int m_h_order, .int m_h_volt, .int m_h_ref, .int x70, .int m_h_t, .int m_h_bit]))] := hD
    refine lv_aload_n hx hb dX2_tick_73 rfl (lv_at hl 1 rfl) ?_
    refine lv_dup hx hb dX2_tick_74 rfl ?_
    refine va_get (D := D) (ci := 2) (v := .int m_h_t) (C := RX2) (T := TX2) (N := 6) hx hb hts ui_X2 hown hK hP 0 rfl rfl 4 (by decide) (hts _ fl_X2_24) (fun _ h9 => h9) rfl dX2_tick_75 ?_
    refine lv_aload_n hx hb dX2_tick_78 rfl (lv_at hl 1 rfl) ?_
    refine va_get (D := D) (ci := 2) (v := .int x70) (C := RX2) (T := TX2) (N := 6) hx hb hts ui_X2 hown hK hP 0 rfl rfl 3 (by decide) (hts _ fl_X2_21) (fun _ h9 => h9) rfl dX2_tick_79 ?_
    refine lv_iload_n hx hb dX2_tick_82 rfl (lv_at hl 0 rfl) ?_
    refine lv_isub hx hb dX2_tick_83 ?_
    refine lv_iadd hx hb dX2_tick_84 ?_
    refine lv_topi (fun x85 ex85 => ?_)
    have hf := zl_of hf x85 ex85
    refine va_put (D := D) (ci := 2) (v := .int x85) (ty := .int) (C := RX2) (T := TX2) (N := 6) hx hb hts ui_X2 tyX2 tyX2_ok nmX2 hown hK hP hD hS 0 rfl rfl 4 (by decide) (hts _ fl_X2_24) (fun _ h9 => h9) rfl rfl rfl rfl (Nat.le_of_ble_eq_true rfl) dX2_tick_85 (fun H locs hP hD hS => ?_)
    have hP : va_P D vwCl [(h, .inr (2, [.int m_h_order, .int m_h_volt, .int m_h_ref, .int x70, .int x85, .int m_h_bit]))] H := hP
    have hD : va_D A [(h, .inr (2, [.int m_h_order, .int m_h_volt, .int m_h_ref, .int x70, .int x85, .int m_h_bit]))] := hD
    refine lv_aload_n hx hb dX2_tick_88 rfl (lv_at hl 1 rfl) ?_
    refine lv_aload_n hx hb dX2_tick_89 rfl (lv_at hl 1 rfl) ?_
    refine va_get (D := D) (ci := 2) (v := .int x85) (C := RX2) (T := TX2) (N := 6) hx hb hts ui_X2 hown hK hP 0 rfl rfl 4 (by decide) (hts _ fl_X2_24) (fun _ h9 => h9) rfl dX2_tick_90 ?_
    refine lv_if_lt (tgt := 100) hx hb dX2_tick_93 (by decide) (fun c93 => ?_) (fun c93 => ?_)
    · have hf := zt c93 hf
      refine lv_iconst (v := 0) hx hb dX2_tick_100 (by decide) ?_
      exact k_X2_tick_J101 C hf hP hD hS (lv_sub hl [1] rfl)
    · have hf := zf c93 hf
      refine lv_iconst (v := 1) hx hb dX2_tick_96 (by decide) ?_
      refine lv_goto (tgt := 101) hx hb dX2_tick_97 (by decide) ?_
      exact k_X2_tick_J101 C hf hP hD hS (lv_sub hl [1] rfl)
  · have hf := zt c5 hf
    refine lv_aload_n hx hb dX2_tick_8 rfl (lv_at hl 0 rfl) ?_
    refine lv_dup hx hb dX2_tick_9 rfl ?_
    refine va_get (D := D) (ci := 2) (v := .int m_h_s) (C := RX2) (T := TX2) (N := 6) hx hb hts ui_X2 hown hK hP 0 rfl rfl 3 (by decide) (hts _ fl_X2_21) (fun _ h9 => h9) rfl dX2_tick_10 ?_
    refine lv_aload_n hx hb dX2_tick_13 rfl (lv_at hl 0 rfl) ?_
    refine va_get (D := D) (ci := 2) (v := .int m_h_volt) (C := RX2) (T := TX2) (N := 6) hx hb hts ui_X2 hown hK hP 0 rfl rfl 1 (by decide) (hts _ fl_X2_15) (fun _ h9 => h9) rfl dX2_tick_14 ?_
    refine lv_iadd hx hb dX2_tick_17 ?_
    refine lv_topi (fun x18 ex18 => ?_)
    have hf := zl_of hf x18 ex18
    refine va_put (D := D) (ci := 2) (v := .int x18) (ty := .int) (C := RX2) (T := TX2) (N := 6) hx hb hts ui_X2 tyX2 tyX2_ok nmX2 hown hK hP hD hS 0 rfl rfl 3 (by decide) (hts _ fl_X2_21) (fun _ h9 => h9) rfl rfl rfl rfl (Nat.le_of_ble_eq_true rfl) dX2_tick_18 (fun H locs hP hD hS => ?_)
    have hP : va_P D vwCl [(h, .inr (2, [.int m_h_order, .int m_h_volt, .int m_h_ref, .int x18, .int m_h_t, .int m_h_bit]))] H := hP
    have hD : va_D A [(h, .inr (2, [.int m_h_order, .int m_h_volt, .int m_h_ref, .int x18, .int m_h_t, .int m_h_bit]))] := hD
    refine lv_aload_n hx hb dX2_tick_21 rfl (lv_at hl 0 rfl) ?_
    refine lv_aload_n hx hb dX2_tick_22 rfl (lv_at hl 0 rfl) ?_
    refine va_get (D := D) (ci := 2) (v := .int x18) (C := RX2) (T := TX2) (N := 6) hx hb hts ui_X2 hown hK hP 0 rfl rfl 3 (by decide) (hts _ fl_X2_21) (fun _ h9 => h9) rfl dX2_tick_23 ?_
    refine lv_if_lt (tgt := 33) hx hb dX2_tick_26 (by decide) (fun c26 => ?_) (fun c26 => ?_)
    · have hf := zt c26 hf
      refine lv_iconst (v := 0) hx hb dX2_tick_33 (by decide) ?_
      exact k_X2_tick_J34 C hf hP hD hS (lv_sub hl [0] rfl)
    · have hf := zf c26 hf
      refine lv_iconst (v := 1) hx hb dX2_tick_29 (by decide) ?_
      refine lv_goto (tgt := 34) hx hb dX2_tick_30 (by decide) ?_
      exact k_X2_tick_J34 C hf hP hD hS (lv_sub hl [0] rfl)
set_option maxRecDepth 100000 in
theorem c_X2_tick (l : Launch) (D : va_G) (cy : Nat → ClassId) (sz : Nat) (h : Nat) (m_h_order : Int32) (m_h_volt : Int32) (m_h_ref : Int32) (m_h_s : Int32) (m_h_t : Int32) (m_h_bit : Int32) {z : Int32 × Int32 × Int32} (hf : f_X2_tick m_h_order m_h_volt m_h_ref m_h_s m_h_t m_h_bit = some z) : Met l yX2_tick (.code yX2_tick cX2_tick 2 none :: tb) ({ frames := 2, cells := 0, slots := 0, locals := 41 } : Room) (kp D cy sz [.ref h] [(h, .inr (2, [.int m_h_order, .int m_h_volt, .int m_h_ref, .int m_h_s, .int m_h_t, .int m_h_bit]))]) (kqv D cy [(h, .inr (2, [.int m_h_order, .int m_h_volt, .int m_h_ref, .int z.1, .int z.2.1, .int z.2.2]))] (va_A [(h, .inr (2, [.int m_h_order, .int m_h_volt, .int m_h_ref, .int m_h_s, .int m_h_t, .int m_h_bit]))] sz)) 0 0 (va_A [(h, .inr (2, [.int m_h_order, .int m_h_volt, .int m_h_ref, .int m_h_s, .int m_h_t, .int m_h_bit]))] sz) :=
  met_of (fun A => kqv D cy [(h, .inr (2, [.int m_h_order, .int m_h_volt, .int m_h_ref, .int z.1, .int z.2.1, .int z.2.2]))] A) (by decide +kernel) (Nat.le_of_ble_eq_true rfl) (fun p e s m below meth c A ls C hP hD hS hl => k_X2_tick C hf hP hD hS hl)
theorem hd_X2_tick : yX2_tick.cls ≠ "java/lang/invoke/MethodHandle" ∧ yX2_tick.cls ≠ "java/lang/invoke/VarHandle" ∧ (parseMethodDescriptor yX2_tick.desc).map (fun d => d.parameters.length) = some 0 := by decide +kernel
def f_X2_ticksWithOne_L4 (v1 : Int32) (m_h_order : Int32) (m_h_volt : Int32) (m_h_ref : Int32) (w : Int32 × Int32 × Int32 × Int32 × Int32) : Option (Nat × (Int32 × Int32 × Int32 × Int32 × Int32)) :=
  if v1 ≤ w.2.1 then
    some (1, (w.1, w.2.1, w.2.2.1, w.2.2.2.1, w.2.2.2.2))
  else
    zb (f_X2_tick m_h_order m_h_volt m_h_ref w.2.2.1 w.2.2.2.1 w.2.2.2.2) fun z10 =>
    zl (w.1 + z10.2.2) fun x19 =>
    zl (w.2.1 + (1 : Int32)) fun x20 =>
    some (0, (x19, x20, z10.1, z10.2.1, z10.2.2))
set_option maxHeartbeats 4000000 in
set_option maxRecDepth 100000 in
theorem k_X2_ticksWithOne_L4 {h : Nat} {v1 : Int32} {m_h_order : Int32} {m_h_volt : Int32} {m_h_ref : Int32} {w : Int32 × Int32 × Int32 × Int32 × Int32} {z : Nat × (Int32 × Int32 × Int32 × Int32 × Int32)} (C : cx p s m args meth c cX2_ticksWithOne 4 (some .int) RX2 D cy A) (hf : f_X2_ticksWithOne_L4 v1 m_h_order m_h_volt m_h_ref w = some z) (hP : va_P D vwCl [(h, .inr (2, [.int m_h_order, .int m_h_volt, .int m_h_ref, .int w.2.2.1, .int w.2.2.2.1, .int w.2.2.2.2]))] H) (hD : va_D A [(h, .inr (2, [.int m_h_order, .int m_h_volt, .int m_h_ref, .int w.2.2.1, .int w.2.2.2.1, .int w.2.2.2.2]))]) (hS : va_S A s.heap H locs) (hl : lv_has ls 4 [(0, .ref h), (1, .int v1), (2, .int w.1), (3, .int w.2.1)]) (hE0 : ∀ (H : Heap) (locs : List Loc) (ls : Array Slot), z.1 = 0 → va_P D vwCl [(h, .inr (2, [.int m_h_order, .int m_h_volt, .int m_h_ref, .int z.2.2.2.1, .int z.2.2.2.2.1, .int z.2.2.2.2.2]))] H → va_D A [(h, .inr (2, [.int m_h_order, .int m_h_volt, .int m_h_ref, .int z.2.2.2.1, .int z.2.2.2.2.1, .int z.2.2.2.2.2]))] → va_S A s.heap H locs → lv_has ls 4 [(0, .ref h), (1, .int v1), (2, .int z.2.1), (3, .int z.2.2.1)] → W p l e ({ frames := 3, cells := 0, slots := 0, locals := 62 } : Room) s m args below meth c H locs 0 0 Q (F0 m 4 ls [])) (hE1 : ∀ (H : Heap) (locs : List Loc) (ls : Array Slot), z.1 = 1 → va_P D vwCl [(h, .inr (2, [.int m_h_order, .int m_h_volt, .int m_h_ref, .int z.2.2.2.1, .int z.2.2.2.2.1, .int z.2.2.2.2.2]))] H → va_D A [(h, .inr (2, [.int m_h_order, .int m_h_volt, .int m_h_ref, .int z.2.2.2.1, .int z.2.2.2.2.1, .int z.2.2.2.2.2]))] → va_S A s.heap H locs → lv_has ls 4 [(2, .int z.2.1)] → W p l e ({ frames := 3, cells := 0, slots := 0, locals := 62 } : Room) s m args below meth c H locs 0 0 Q (F0 m 26 ls [])) : W p l e ({ frames := 3, cells := 0, slots := 0, locals := 62 } : Room) s m args below meth c H locs 0 0 Q (F0 m 4 ls []) := by
  obtain ⟨hx, hb, hr, hml, hown, hts, hlk, hK, hA, hN⟩ := id C
  unfold f_X2_ticksWithOne_L4 at hf
  refine lv_iload_n hx hb dX2_ticksWithOne_4 rfl (lv_at hl 3 rfl) ?_
  refine lv_iload_n hx hb dX2_ticksWithOne_5 rfl (lv_at hl 1 rfl) ?_
  refine lv_icmp_ge (tgt := 26) hx hb dX2_ticksWithOne_6 (by decide) (fun c6 => ?_) (fun c6 => ?_)
  · have hf := zt c6 hf
    obtain rfl := Option.some.inj hf
    exact hE1 _ _ _ rfl hP hD hS (lv_sub hl [2] rfl)
  · have hf := zf c6 hf
    refine lv_aload_n hx hb dX2_ticksWithOne_9 rfl (lv_at hl 0 rfl) ?_
    obtain ⟨z10, hz10, hf⟩ := zb_of hf
    refine goV (wr := []) (ws' := [(h, .inr (2, [.int m_h_order, .int m_h_volt, .int m_h_ref, .int z10.1, .int z10.2.1, .int z10.2.2]))]) C (runV (n := 0) (As := []) (rest := []) C (c_X2_tick l D cy H.size h m_h_order m_h_volt m_h_ref w.2.2.1 w.2.2.2.1 w.2.2.2.2 hz10) ml_X2_49 im_X2_tick se_X2_tick ii_X2 cd_X2_tick hd_X2_tick rfl rfl ⟨Nat.le_of_ble_eq_true rfl, Nat.le_of_ble_eq_true rfl⟩ (hP.sub [0] rfl) (hD.sub [0] (by decide) rfl) hS rfl rfl rfl hl.1 rfl (Nat.le_of_ble_eq_true rfl) dX2_ticksWithOne_10) hP hD hS [0] [] [0] rfl rfl (by decide) (by decide) rfl (by decide) (fun H locs hP hD hS => ?_)
    refine lv_iload_n hx hb dX2_ticksWithOne_13 rfl (lv_at hl 2 rfl) ?_
    refine lv_aload_n hx hb dX2_ticksWithOne_14 rfl (lv_at hl 0 rfl) ?_
    refine va_get (D := D) (ci := 2) (v := .int z10.2.2) (C := RX2) (T := TX2) (N := 6) hx hb hts ui_X2 hown hK hP 0 rfl rfl 5 (by decide) (hts _ fl_X2_27) (fun _ h9 => h9) rfl dX2_ticksWithOne_15 ?_
    refine lv_iadd hx hb dX2_ticksWithOne_18 ?_
    refine lv_topi (fun x19 ex19 => ?_)
    have hf := zl_of hf x19 ex19
    refine lv_istore_n (lv' := [(2, .int x19), (0, .ref h), (1, .int v1), (3, .int w.2.1)]) hx hb dX2_ticksWithOne_19 rfl hl (by decide) rfl (fun ls hl => ?_)
    obtain ⟨x20, ex20⟩ : ∃ y : Int32, y = w.2.1 + (1 : Int32) := ⟨_, rfl⟩
    have hf := zl_of hf x20 ex20
    refine lv_iinc (v := x20) (lv' := [(3, .int x20), (2, .int x19), (0, .ref h), (1, .int v1)]) hx hb dX2_ticksWithOne_20 hl (k := 3) rfl (by rw [ex20]; rfl) (by decide) rfl (fun ls hl => ?_)
    refine lv_goto (tgt := 4) hx hb dX2_ticksWithOne_23 (by decide) ?_
    obtain rfl := Option.some.inj hf
    exact hE0 _ _ _ rfl hP hD hS (lv_sub hl [2, 3, 1, 0] rfl)
set_option maxHeartbeats 4000000 in
set_option maxRecDepth 100000 in
theorem kl_X2_ticksWithOne_L4 {h : Nat} {v1 : Int32} {m_h_order : Int32} {m_h_volt : Int32} {m_h_ref : Int32} (C : cx p s m args meth c cX2_ticksWithOne 4 (some .int) RX2 D cy A) : ∀ (n : Nat) (w : Int32 × Int32 × Int32 × Int32 × Int32) (z : Nat × (Int32 × Int32 × Int32 × Int32 × Int32)) (H : Heap) (locs : List Loc) (ls : Array Slot), zp (f_X2_ticksWithOne_L4 v1 m_h_order m_h_volt m_h_ref) n w = some z → va_P D vwCl [(h, .inr (2, [.int m_h_order, .int m_h_volt, .int m_h_ref, .int w.2.2.1, .int w.2.2.2.1, .int w.2.2.2.2]))] H → va_D A [(h, .inr (2, [.int m_h_order, .int m_h_volt, .int m_h_ref, .int w.2.2.1, .int w.2.2.2.1, .int w.2.2.2.2]))] → va_S A s.heap H locs → lv_has ls 4 [(0, .ref h), (1, .int v1), (2, .int w.1), (3, .int w.2.1)] → (∀ (H : Heap) (locs : List Loc) (ls : Array Slot), z.1 = 1 → va_P D vwCl [(h, .inr (2, [.int m_h_order, .int m_h_volt, .int m_h_ref, .int z.2.2.2.1, .int z.2.2.2.2.1, .int z.2.2.2.2.2]))] H → va_D A [(h, .inr (2, [.int m_h_order, .int m_h_volt, .int m_h_ref, .int z.2.2.2.1, .int z.2.2.2.2.1, .int z.2.2.2.2.2]))] → va_S A s.heap H locs → lv_has ls 4 [(2, .int z.2.1)] → W p l e ({ frames := 3, cells := 0, slots := 0, locals := 62 } : Room) s m args below meth c H locs 0 0 Q (F0 m 26 ls [])) → W p l e ({ frames := 3, cells := 0, slots := 0, locals := 62 } : Room) s m args below meth c H locs 0 0 Q (F0 m 4 ls []) := by
  intro n
  induction n with
  | zero => intro w z H locs ls hf; cases hf
  | succ n ih =>
    intro w z H locs ls hf hP hD hS hl hE1
    obtain ⟨w1, hw, hd⟩ := zp_s hf
    refine k_X2_ticksWithOne_L4 C hw hP hD hS hl (fun H locs ls h0 hP hD hS hl => ?_) (fun H locs ls h0 hP hD hS hl => ?_)
    · rcases hd with ⟨_, h⟩ | ⟨h, _⟩
      · exact ih _ _ _ _ _ h hP hD hS hl hE1
      · exact absurd h0 h
    · rcases hd with ⟨h, _⟩ | ⟨_, h⟩
      · exact absurd (h.symm.trans h0) (by decide)
      · subst h; exact hE1 _ _ _ h0 hP hD hS hl
def f_X2_ticksWithOne (v1 : Int32) (m_h_order : Int32) (m_h_volt : Int32) (m_h_ref : Int32) (m_h_s : Int32) (m_h_t : Int32) (m_h_bit : Int32) : Option (Int32 × Int32 × Int32 × Int32) :=
  zb (zp (f_X2_ticksWithOne_L4 v1 m_h_order m_h_volt m_h_ref) zF ((0 : Int32), (0 : Int32), m_h_s, m_h_t, m_h_bit)) fun z4 =>
  some (z4.2.1, z4.2.2.2.1, z4.2.2.2.2.1, z4.2.2.2.2.2)
set_option maxHeartbeats 4000000 in
set_option maxRecDepth 100000 in
theorem k_X2_ticksWithOne {h : Nat} {v1 : Int32} {m_h_order : Int32} {m_h_volt : Int32} {m_h_ref : Int32} {m_h_s : Int32} {m_h_t : Int32} {m_h_bit : Int32} {z : Int32 × Int32 × Int32 × Int32} (C : cx p s m args meth c cX2_ticksWithOne 4 (some .int) RX2 D cy A) (hf : f_X2_ticksWithOne v1 m_h_order m_h_volt m_h_ref m_h_s m_h_t m_h_bit = some z) (hP : va_P D vwCl [(h, .inr (2, [.int m_h_order, .int m_h_volt, .int m_h_ref, .int m_h_s, .int m_h_t, .int m_h_bit]))] H) (hD : va_D A [(h, .inr (2, [.int m_h_order, .int m_h_volt, .int m_h_ref, .int m_h_s, .int m_h_t, .int m_h_bit]))]) (hS : va_S A s.heap H locs) (hl : lv_has ls 4 [(0, .ref h), (1, .int v1)]) : W p l e ({ frames := 3, cells := 0, slots := 0, locals := 62 } : Room) s m args below meth c H locs 0 0 (MQ below (kqi D cy [(h, .inr (2, [.int m_h_order, .int m_h_volt, .int m_h_ref, .int z.2.1, .int z.2.2.1, .int z.2.2.2]))] z.1 A) args s 0 0 A) (F0 m 0 ls []) := by
  obtain ⟨hx, hb, hr, hml, hown, hts, hlk, hK, hA, hN⟩ := id C
  unfold f_X2_ticksWithOne at hf
  refine lv_iconst (v := 0) hx hb dX2_ticksWithOne_0 (by decide) ?_
  refine lv_istore_n (lv' := [(2, .int (0 : Int32)), (0, .ref h), (1, .int v1)]) hx hb dX2_ticksWithOne_1 rfl hl (by decide) rfl (fun ls hl => ?_)
  refine lv_iconst (v := 0) hx hb dX2_ticksWithOne_2 (by decide) ?_
  refine lv_istore_n (lv' := [(3, .int (0 : Int32)), (2, .int (0 : Int32)), (0, .ref h), (1, .int v1)]) hx hb dX2_ticksWithOne_3 rfl hl (by decide) rfl (fun ls hl => ?_)
  obtain ⟨z4, hz4, hf⟩ := zb_of hf
  refine kl_X2_ticksWithOne_L4 C _ _ _ _ _ _ hz4 hP hD hS (lv_sub hl [2, 3, 1, 0] rfl) (fun H locs ls h0 hP hD hS hl => ?_)
  refine lv_iload_n hx hb dX2_ticksWithOne_26 rfl (lv_at hl 0 rfl) ?_
  obtain rfl := Option.some.inj hf
  exact ret_i C hP hD hS dX2_ticksWithOne_27
set_option maxRecDepth 100000 in
theorem c_X2_ticksWithOne (l : Launch) (D : va_G) (cy : Nat → ClassId) (sz : Nat) (h : Nat) (v1 : Int32) (m_h_order : Int32) (m_h_volt : Int32) (m_h_ref : Int32) (m_h_s : Int32) (m_h_t : Int32) (m_h_bit : Int32) {z : Int32 × Int32 × Int32 × Int32} (hf : f_X2_ticksWithOne v1 m_h_order m_h_volt m_h_ref m_h_s m_h_t m_h_bit = some z) : Met l yX2_ticksWithOne (.code yX2_ticksWithOne cX2_ticksWithOne 4 (some .int) :: tb) ({ frames := 3, cells := 0, slots := 0, locals := 62 } : Room) (kp D cy sz [.ref h, .int v1] [(h, .inr (2, [.int m_h_order, .int m_h_volt, .int m_h_ref, .int m_h_s, .int m_h_t, .int m_h_bit]))]) (kqi D cy [(h, .inr (2, [.int m_h_order, .int m_h_volt, .int m_h_ref, .int z.2.1, .int z.2.2.1, .int z.2.2.2]))] z.1 (va_A [(h, .inr (2, [.int m_h_order, .int m_h_volt, .int m_h_ref, .int m_h_s, .int m_h_t, .int m_h_bit]))] sz)) 0 0 (va_A [(h, .inr (2, [.int m_h_order, .int m_h_volt, .int m_h_ref, .int m_h_s, .int m_h_t, .int m_h_bit]))] sz) :=
  met_of (fun A => kqi D cy [(h, .inr (2, [.int m_h_order, .int m_h_volt, .int m_h_ref, .int z.2.1, .int z.2.2.1, .int z.2.2.2]))] z.1 A) (by decide +kernel) (Nat.le_of_ble_eq_true rfl) (fun p e s m below meth c A ls C hP hD hS hl => k_X2_ticksWithOne C hf hP hD hS hl)
theorem hd_X2_ticksWithOne : yX2_ticksWithOne.cls ≠ "java/lang/invoke/MethodHandle" ∧ yX2_ticksWithOne.cls ≠ "java/lang/invoke/VarHandle" ∧ (parseMethodDescriptor yX2_ticksWithOne.desc).map (fun d => d.parameters.length) = some 1 := by decide +kernel
def f_X2_isAs (m_h_order : Int32) (m_h_s : Int32) (m_h_t : Int32) (m_h_bit : Int32) (m_r1_s : Int32) (m_r1_t : Int32) (m_r1_bit : Int32) : Option (Int32) :=
  if m_h_s = m_r1_s then
    if m_h_order = (1 : Int32) then
      some (1 : Int32)
    else
      if m_h_t = m_r1_t then
        if m_h_bit = m_r1_bit then
          some (1 : Int32)
        else
          some (0 : Int32)
      else
        some (0 : Int32)
  else
    some (0 : Int32)
set_option maxHeartbeats 4000000 in
set_option maxRecDepth 100000 in
theorem k_X2_isAs {h r1 : Nat} {m_h_order : Int32} {m_h_volt : Int32} {m_h_ref : Int32} {m_h_s : Int32} {m_h_t : Int32} {m_h_bit : Int32} {m_r1_order : Int32} {m_r1_volt : Int32} {m_r1_ref : Int32} {m_r1_s : Int32} {m_r1_t : Int32} {m_r1_bit : Int32} {z : Int32} (C : cx p s m args meth c cX2_isAs 2 (some .boolean) RX2 D cy A) (hf : f_X2_isAs m_h_order m_h_s m_h_t m_h_bit m_r1_s m_r1_t m_r1_bit = some z) (hP : va_P D vwCl [(h, .inr (2, [.int m_h_order, .int m_h_volt, .int m_h_ref, .int m_h_s, .int m_h_t, .int m_h_bit])), (r1, .inr (2, [.int m_r1_order, .int m_r1_volt, .int m_r1_ref, .int m_r1_s, .int m_r1_t, .int m_r1_bit]))] H) (hD : va_D A [(h, .inr (2, [.int m_h_order, .int m_h_volt, .int m_h_ref, .int m_h_s, .int m_h_t, .int m_h_bit])), (r1, .inr (2, [.int m_r1_order, .int m_r1_volt, .int m_r1_ref, .int m_r1_s, .int m_r1_t, .int m_r1_bit]))]) (hS : va_S A s.heap H locs) (hl : lv_has ls 2 [(0, .ref h), (1, .ref r1)]) : W p l e ({ frames := 0, cells := 0, slots := 0, locals := 0 } : Room) s m args below meth c H locs 0 0 (MQ below (kqz D cy [(h, .inr (2, [.int m_h_order, .int m_h_volt, .int m_h_ref, .int m_h_s, .int m_h_t, .int m_h_bit])), (r1, .inr (2, [.int m_r1_order, .int m_r1_volt, .int m_r1_ref, .int m_r1_s, .int m_r1_t, .int m_r1_bit]))] z A) args s 0 0 A) (F0 m 0 ls []) := by
  obtain ⟨hx, hb, hr, hml, hown, hts, hlk, hK, hA, hN⟩ := id C
  unfold f_X2_isAs at hf
  refine lv_aload_n hx hb dX2_isAs_0 rfl (lv_at hl 1 rfl) ?_
  refine lv_ifnull hx hb dX2_isAs_1 ?_
  refine lv_aload_n hx hb dX2_isAs_4 rfl (lv_at hl 0 rfl) ?_
  refine va_get (D := D) (ci := 2) (v := .int m_h_s) (C := RX2) (T := TX2) (N := 6) hx hb hts ui_X2 hown hK hP 0 rfl rfl 3 (by decide) (hts _ fl_X2_21) (fun _ h9 => h9) rfl dX2_isAs_5 ?_
  refine lv_aload_n hx hb dX2_isAs_8 rfl (lv_at hl 1 rfl) ?_
  refine va_get (D := D) (ci := 2) (v := .int m_r1_s) (C := RX2) (T := TX2) (N := 6) hx hb hts ui_X2 hown hK hP 1 rfl rfl 3 (by decide) (hts _ fl_X2_21) (fun _ h9 => h9) rfl dX2_isAs_9 ?_
  refine lv_icmp_eq (tgt := 17) hx hb dX2_isAs_12 (by decide) (fun c12 => ?_) (fun c12 => ?_)
  · have hf := zt c12 hf
    refine lv_aload_n hx hb dX2_isAs_17 rfl (lv_at hl 0 rfl) ?_
    refine va_get (D := D) (ci := 2) (v := .int m_h_order) (C := RX2) (T := TX2) (N := 6) hx hb hts ui_X2 hown hK hP 0 rfl rfl 0 (by decide) (hts _ fl_X2_9) (fun _ h9 => h9) rfl dX2_isAs_18 ?_
    refine lv_iconst (v := 1) hx hb dX2_isAs_21 (by decide) ?_
    refine lv_icmp_eq (tgt := 47) hx hb dX2_isAs_22 (by decide) (fun c22 => ?_) (fun c22 => ?_)
    · have hf := zt c22 hf
      refine lv_iconst (v := 1) hx hb dX2_isAs_47 (by decide) ?_
      refine lv_goto (tgt := 52) hx hb dX2_isAs_48 (by decide) ?_
      obtain rfl := Option.some.inj hf
      exact ret_z (v := (1 : Int32)) C rfl hP hD hS dX2_isAs_52
    · have hf := zf c22 hf
      refine lv_aload_n hx hb dX2_isAs_25 rfl (lv_at hl 0 rfl) ?_
      refine va_get (D := D) (ci := 2) (v := .int m_h_t) (C := RX2) (T := TX2) (N := 6) hx hb hts ui_X2 hown hK hP 0 rfl rfl 4 (by decide) (hts _ fl_X2_24) (fun _ h9 => h9) rfl dX2_isAs_26 ?_
      refine lv_aload_n hx hb dX2_isAs_29 rfl (lv_at hl 1 rfl) ?_
      refine va_get (D := D) (ci := 2) (v := .int m_r1_t) (C := RX2) (T := TX2) (N := 6) hx hb hts ui_X2 hown hK hP 1 rfl rfl 4 (by decide) (hts _ fl_X2_24) (fun _ h9 => h9) rfl dX2_isAs_30 ?_
      refine lv_icmp_ne (tgt := 51) hx hb dX2_isAs_33 (by decide) (fun c33 => ?_) (fun c33 => ?_)
      · have hf := zf c33 hf
        refine lv_iconst (v := 0) hx hb dX2_isAs_51 (by decide) ?_
        obtain rfl := Option.some.inj hf
        exact ret_z (v := (0 : Int32)) C rfl hP hD hS dX2_isAs_52
      · have hf := zt c33 hf
        refine lv_aload_n hx hb dX2_isAs_36 rfl (lv_at hl 0 rfl) ?_
        refine va_get (D := D) (ci := 2) (v := .int m_h_bit) (C := RX2) (T := TX2) (N := 6) hx hb hts ui_X2 hown hK hP 0 rfl rfl 5 (by decide) (hts _ fl_X2_27) (fun _ h9 => h9) rfl dX2_isAs_37 ?_
        refine lv_aload_n hx hb dX2_isAs_40 rfl (lv_at hl 1 rfl) ?_
        refine va_get (D := D) (ci := 2) (v := .int m_r1_bit) (C := RX2) (T := TX2) (N := 6) hx hb hts ui_X2 hown hK hP 1 rfl rfl 5 (by decide) (hts _ fl_X2_27) (fun _ h9 => h9) rfl dX2_isAs_41 ?_
        refine lv_icmp_ne (tgt := 51) hx hb dX2_isAs_44 (by decide) (fun c44 => ?_) (fun c44 => ?_)
        · have hf := zf c44 hf
          refine lv_iconst (v := 0) hx hb dX2_isAs_51 (by decide) ?_
          obtain rfl := Option.some.inj hf
          exact ret_z (v := (0 : Int32)) C rfl hP hD hS dX2_isAs_52
        · have hf := zt c44 hf
          refine lv_iconst (v := 1) hx hb dX2_isAs_47 (by decide) ?_
          refine lv_goto (tgt := 52) hx hb dX2_isAs_48 (by decide) ?_
          obtain rfl := Option.some.inj hf
          exact ret_z (v := (1 : Int32)) C rfl hP hD hS dX2_isAs_52
  · have hf := zf c12 hf
    refine lv_iconst (v := 0) hx hb dX2_isAs_15 (by decide) ?_
    obtain rfl := Option.some.inj hf
    exact ret_z (v := (0 : Int32)) C rfl hP hD hS dX2_isAs_16
set_option maxRecDepth 100000 in
theorem c_X2_isAs (l : Launch) (D : va_G) (cy : Nat → ClassId) (sz : Nat) (h r1 : Nat) (m_h_order : Int32) (m_h_volt : Int32) (m_h_ref : Int32) (m_h_s : Int32) (m_h_t : Int32) (m_h_bit : Int32) (m_r1_order : Int32) (m_r1_volt : Int32) (m_r1_ref : Int32) (m_r1_s : Int32) (m_r1_t : Int32) (m_r1_bit : Int32) {z : Int32} (hf : f_X2_isAs m_h_order m_h_s m_h_t m_h_bit m_r1_s m_r1_t m_r1_bit = some z) : Met l yX2_isAs (.code yX2_isAs cX2_isAs 2 (some .boolean) :: tb) ({ frames := 0, cells := 0, slots := 0, locals := 0 } : Room) (kp D cy sz [.ref h, .ref r1] [(h, .inr (2, [.int m_h_order, .int m_h_volt, .int m_h_ref, .int m_h_s, .int m_h_t, .int m_h_bit])), (r1, .inr (2, [.int m_r1_order, .int m_r1_volt, .int m_r1_ref, .int m_r1_s, .int m_r1_t, .int m_r1_bit]))]) (kqz D cy [(h, .inr (2, [.int m_h_order, .int m_h_volt, .int m_h_ref, .int m_h_s, .int m_h_t, .int m_h_bit])), (r1, .inr (2, [.int m_r1_order, .int m_r1_volt, .int m_r1_ref, .int m_r1_s, .int m_r1_t, .int m_r1_bit]))] z (va_A [(h, .inr (2, [.int m_h_order, .int m_h_volt, .int m_h_ref, .int m_h_s, .int m_h_t, .int m_h_bit])), (r1, .inr (2, [.int m_r1_order, .int m_r1_volt, .int m_r1_ref, .int m_r1_s, .int m_r1_t, .int m_r1_bit]))] sz)) 0 0 (va_A [(h, .inr (2, [.int m_h_order, .int m_h_volt, .int m_h_ref, .int m_h_s, .int m_h_t, .int m_h_bit])), (r1, .inr (2, [.int m_r1_order, .int m_r1_volt, .int m_r1_ref, .int m_r1_s, .int m_r1_t, .int m_r1_bit]))] sz) :=
  met_of (fun A => kqz D cy [(h, .inr (2, [.int m_h_order, .int m_h_volt, .int m_h_ref, .int m_h_s, .int m_h_t, .int m_h_bit])), (r1, .inr (2, [.int m_r1_order, .int m_r1_volt, .int m_r1_ref, .int m_r1_s, .int m_r1_t, .int m_r1_bit]))] z A) (by decide +kernel) (Nat.le_of_ble_eq_true rfl) (fun p e s m below meth c A ls C hP hD hS hl => k_X2_isAs C hf hP hD hS hl)
theorem hd_X2_isAs : yX2_isAs.cls ≠ "java/lang/invoke/MethodHandle" ∧ yX2_isAs.cls ≠ "java/lang/invoke/VarHandle" ∧ (parseMethodDescriptor yX2_isAs.desc).map (fun d => d.parameters.length) = some 1 := by decide +kernel
def f_X9_append_L26 (v1 : Int64) (m_h_length : Int32) (w : Int32 × (Nat → Int32)) : Option (Nat × (Int32 × (Nat → Int32))) :=
  if (8 : Int32) ≤ w.1 then
    some (1, (w.1, w.2))
  else
    zl ((((v1.toUInt64 >>> (((56 : Int32) - ((8 : Int32) * w.1)).toInt64.toUInt64 &&& Int64.toUInt64 63)).toInt64).toInt32).toInt8.toInt32) fun x53 =>
    zc (m_h_length + w.1) 200 <|
    zl (upd w.2 (m_h_length + w.1).toNatClampNeg (vp_nar .byte x53)) fun a53 =>
    zl (w.1 + (1 : Int32)) fun x54 =>
    some (0, (x54, a53))
set_option maxHeartbeats 4000000 in
set_option maxRecDepth 100000 in
theorem k_X9_append_L26 {h q_h_bytes : Nat} {v1 : Int64} {m_h_length : Int32} {m_h_kind : Int32} {m_h_place : Int32} {m_h_number : Int32} {m_h_behind : Int32} {w : Int32 × (Nat → Int32)} {z : Nat × (Int32 × (Nat → Int32))} (C : cx p s m args meth c cX9_append 4 (some .boolean) RX9 D cy A) (hf : f_X9_append_L26 v1 m_h_length w = some z) (hP : va_P D vwCl [(h, .inr (9, [.ref q_h_bytes, .int m_h_length, .int m_h_kind, .int m_h_place, .int m_h_number, .int m_h_behind])), (q_h_bytes, aB cy 200 w.2)] H) (hD : va_D A [(h, .inr (9, [.ref q_h_bytes, .int m_h_length, .int m_h_kind, .int m_h_place, .int m_h_number, .int m_h_behind])), (q_h_bytes, aB cy 200 w.2)]) (hS : va_S A s.heap H locs) (hl : lv_has ls 4 [(0, .ref h), (1, .long v1), (3, .int w.1)]) (hE0 : ∀ (H : Heap) (locs : List Loc) (ls : Array Slot), z.1 = 0 → va_P D vwCl [(h, .inr (9, [.ref q_h_bytes, .int m_h_length, .int m_h_kind, .int m_h_place, .int m_h_number, .int m_h_behind])), (q_h_bytes, aB cy 200 z.2.2)] H → va_D A [(h, .inr (9, [.ref q_h_bytes, .int m_h_length, .int m_h_kind, .int m_h_place, .int m_h_number, .int m_h_behind])), (q_h_bytes, aB cy 200 z.2.2)] → va_S A s.heap H locs → lv_has ls 4 [(0, .ref h), (1, .long v1), (3, .int z.2.1)] → W p l e ({ frames := 0, cells := 0, slots := 0, locals := 0 } : Room) s m args below meth c H locs 0 0 Q (F0 m 26 ls [])) (hE1 : ∀ (H : Heap) (locs : List Loc) (ls : Array Slot), z.1 = 1 → va_P D vwCl [(h, .inr (9, [.ref q_h_bytes, .int m_h_length, .int m_h_kind, .int m_h_place, .int m_h_number, .int m_h_behind])), (q_h_bytes, aB cy 200 z.2.2)] H → va_D A [(h, .inr (9, [.ref q_h_bytes, .int m_h_length, .int m_h_kind, .int m_h_place, .int m_h_number, .int m_h_behind])), (q_h_bytes, aB cy 200 z.2.2)] → va_S A s.heap H locs → lv_has ls 4 [(0, .ref h)] → W p l e ({ frames := 0, cells := 0, slots := 0, locals := 0 } : Room) s m args below meth c H locs 0 0 Q (F0 m 60 ls [])) : W p l e ({ frames := 0, cells := 0, slots := 0, locals := 0 } : Room) s m args below meth c H locs 0 0 Q (F0 m 26 ls []) := by
  obtain ⟨hx, hb, hr, hml, hown, hts, hlk, hK, hA, hN⟩ := id C
  unfold f_X9_append_L26 at hf
  refine lv_iload_n hx hb dX9_append_26 rfl (lv_at hl 2 rfl) ?_
  refine lv_bipush (v := 8) hx hb dX9_append_27 (by decide) ?_
  refine lv_icmp_ge (tgt := 60) hx hb dX9_append_29 (by decide) (fun c29 => ?_) (fun c29 => ?_)
  · have hf := zt c29 hf
    obtain rfl := Option.some.inj hf
    exact hE1 _ _ _ rfl hP hD hS (lv_sub hl [0] rfl)
  · have hf := zf c29 hf
    refine lv_aload_n hx hb dX9_append_32 rfl (lv_at hl 0 rfl) ?_
    refine va_get (D := D) (ci := 9) (v := .ref q_h_bytes) (C := RX9) (T := TX9) (N := 6) hx hb hts ui_X9 hown hK hP 0 rfl rfl 0 (by decide) (hts _ fl_X9_9) (fun _ h9 => h9) rfl dX9_append_33 ?_
    refine lv_aload_n hx hb dX9_append_36 rfl (lv_at hl 0 rfl) ?_
    refine va_get (D := D) (ci := 9) (v := .int m_h_length) (C := RX9) (T := TX9) (N := 6) hx hb hts ui_X9 hown hK hP 0 rfl rfl 1 (by decide) (hts _ fl_X9_13) (fun _ h9 => h9) rfl dX9_append_37 ?_
    refine lv_iload_n hx hb dX9_append_40 rfl (lv_at hl 2 rfl) ?_
    refine lv_iadd hx hb dX9_append_41 ?_
    refine lv_lload_n hx hb dX9_append_42 rfl (lv_at hl 1 rfl) ?_
    refine lv_bipush (v := 56) hx hb dX9_append_43 (by decide) ?_
    refine lv_bipush (v := 8) hx hb dX9_append_45 (by decide) ?_
    refine lv_iload_n hx hb dX9_append_47 rfl (lv_at hl 2 rfl) ?_
    refine lv_imul hx hb dX9_append_48 ?_
    refine lv_isub hx hb dX9_append_49 ?_
    refine lv_lushr hx hb dX9_append_50 rfl ?_
    refine lv_l2i hx hb dX9_append_51 rfl ?_
    refine lv_i2b hx hb dX9_append_52 rfl ?_
    refine lv_topi (fun x53 ex53 => ?_)
    have hf := zl_of hf x53 ex53
    obtain ⟨hin, hf⟩ := zc_of hf
    obtain ⟨a53, ea53⟩ : ∃ y : Nat → Int32, y = upd w.2 (m_h_length + w.1).toNatClampNeg (vp_nar .byte x53) := ⟨_, rfl⟩
    have hf := zl_of hf a53 ea53
    refine va_bast hx hb hK hP hD hS 1 0 rfl rfl hin dX9_append_53 (fun H locs hP hD hS => ?_)
    rw [← ea53] at hP hD
    have hP : va_P D vwCl [(h, .inr (9, [.ref q_h_bytes, .int m_h_length, .int m_h_kind, .int m_h_place, .int m_h_number, .int m_h_behind])), (q_h_bytes, aB cy 200 a53)] H := hP
    have hD : va_D A [(h, .inr (9, [.ref q_h_bytes, .int m_h_length, .int m_h_kind, .int m_h_place, .int m_h_number, .int m_h_behind])), (q_h_bytes, aB cy 200 a53)] := hD
    obtain ⟨x54, ex54⟩ : ∃ y : Int32, y = w.1 + (1 : Int32) := ⟨_, rfl⟩
    have hf := zl_of hf x54 ex54
    refine lv_iinc (v := x54) (lv' := [(3, .int x54), (0, .ref h), (1, .long v1)]) hx hb dX9_append_54 hl (k := 2) rfl (by rw [ex54]; rfl) (by decide) rfl (fun ls hl => ?_)
    refine lv_goto (tgt := 26) hx hb dX9_append_57 (by decide) ?_
    obtain rfl := Option.some.inj hf
    exact hE0 _ _ _ rfl hP hD hS (lv_sub hl [1, 2, 0] rfl)
set_option maxHeartbeats 4000000 in
set_option maxRecDepth 100000 in
theorem kl_X9_append_L26 {h q_h_bytes : Nat} {v1 : Int64} {m_h_length : Int32} {m_h_kind : Int32} {m_h_place : Int32} {m_h_number : Int32} {m_h_behind : Int32} (C : cx p s m args meth c cX9_append 4 (some .boolean) RX9 D cy A) : ∀ (n : Nat) (w : Int32 × (Nat → Int32)) (z : Nat × (Int32 × (Nat → Int32))) (H : Heap) (locs : List Loc) (ls : Array Slot), zp (f_X9_append_L26 v1 m_h_length) n w = some z → va_P D vwCl [(h, .inr (9, [.ref q_h_bytes, .int m_h_length, .int m_h_kind, .int m_h_place, .int m_h_number, .int m_h_behind])), (q_h_bytes, aB cy 200 w.2)] H → va_D A [(h, .inr (9, [.ref q_h_bytes, .int m_h_length, .int m_h_kind, .int m_h_place, .int m_h_number, .int m_h_behind])), (q_h_bytes, aB cy 200 w.2)] → va_S A s.heap H locs → lv_has ls 4 [(0, .ref h), (1, .long v1), (3, .int w.1)] → (∀ (H : Heap) (locs : List Loc) (ls : Array Slot), z.1 = 1 → va_P D vwCl [(h, .inr (9, [.ref q_h_bytes, .int m_h_length, .int m_h_kind, .int m_h_place, .int m_h_number, .int m_h_behind])), (q_h_bytes, aB cy 200 z.2.2)] H → va_D A [(h, .inr (9, [.ref q_h_bytes, .int m_h_length, .int m_h_kind, .int m_h_place, .int m_h_number, .int m_h_behind])), (q_h_bytes, aB cy 200 z.2.2)] → va_S A s.heap H locs → lv_has ls 4 [(0, .ref h)] → W p l e ({ frames := 0, cells := 0, slots := 0, locals := 0 } : Room) s m args below meth c H locs 0 0 Q (F0 m 60 ls [])) → W p l e ({ frames := 0, cells := 0, slots := 0, locals := 0 } : Room) s m args below meth c H locs 0 0 Q (F0 m 26 ls []) := by
  intro n
  induction n with
  | zero => intro w z H locs ls hf; cases hf
  | succ n ih =>
    intro w z H locs ls hf hP hD hS hl hE1
    obtain ⟨w1, hw, hd⟩ := zp_s hf
    refine k_X9_append_L26 C hw hP hD hS hl (fun H locs ls h0 hP hD hS hl => ?_) (fun H locs ls h0 hP hD hS hl => ?_)
    · rcases hd with ⟨_, h⟩ | ⟨h, _⟩
      · exact ih _ _ _ _ _ h hP hD hS hl hE1
      · exact absurd h0 h
    · rcases hd with ⟨h, _⟩ | ⟨_, h⟩
      · exact absurd (h.symm.trans h0) (by decide)
      · subst h; exact hE1 _ _ _ h0 hP hD hS hl
def f_X9_append (v1 : Int64) (m_h_length : Int32) (m_h_bytes : Nat → Int32) : Option (Int32 × Int32 × (Nat → Int32)) :=
  if m_h_length < 0 then
    some ((0 : Int32), m_h_length, m_h_bytes)
  else
    if (m_h_length + (8 : Int32)) ≤ (200 : Int32) then
      zb (zp (f_X9_append_L26 v1 m_h_length) zF ((0 : Int32), m_h_bytes)) fun z26 =>
      zl (m_h_length + (8 : Int32)) fun x68 =>
      some ((1 : Int32), x68, z26.2.2)
    else
      some ((0 : Int32), m_h_length, m_h_bytes)
set_option maxHeartbeats 4000000 in
set_option maxRecDepth 100000 in
theorem k_X9_append {h q_h_bytes : Nat} {v1 : Int64} {m_h_length : Int32} {m_h_kind : Int32} {m_h_place : Int32} {m_h_number : Int32} {m_h_behind : Int32} {m_h_bytes : Nat → Int32} {z : Int32 × Int32 × (Nat → Int32)} (C : cx p s m args meth c cX9_append 4 (some .boolean) RX9 D cy A) (hf : f_X9_append v1 m_h_length m_h_bytes = some z) (hP : va_P D vwCl [(h, .inr (9, [.ref q_h_bytes, .int m_h_length, .int m_h_kind, .int m_h_place, .int m_h_number, .int m_h_behind])), (q_h_bytes, aB cy 200 m_h_bytes)] H) (hD : va_D A [(h, .inr (9, [.ref q_h_bytes, .int m_h_length, .int m_h_kind, .int m_h_place, .int m_h_number, .int m_h_behind])), (q_h_bytes, aB cy 200 m_h_bytes)]) (hS : va_S A s.heap H locs) (hl : lv_has ls 4 [(0, .ref h), (1, .long v1)]) : W p l e ({ frames := 0, cells := 0, slots := 0, locals := 0 } : Room) s m args below meth c H locs 0 0 (MQ below (kqz D cy [(h, .inr (9, [.ref q_h_bytes, .int z.2.1, .int m_h_kind, .int m_h_place, .int m_h_number, .int m_h_behind])), (q_h_bytes, aB cy 200 z.2.2)] z.1 A) args s 0 0 A) (F0 m 0 ls []) := by
  obtain ⟨hx, hb, hr, hml, hown, hts, hlk, hK, hA, hN⟩ := id C
  unfold f_X9_append at hf
  refine lv_aload_n hx hb dX9_append_0 rfl (lv_at hl 0 rfl) ?_
  refine va_get (D := D) (ci := 9) (v := .int m_h_length) (C := RX9) (T := TX9) (N := 6) hx hb hts ui_X9 hown hK hP 0 rfl rfl 1 (by decide) (hts _ fl_X9_13) (fun _ h9 => h9) rfl dX9_append_1 ?_
  refine lv_if_lt (tgt := 22) hx hb dX9_append_4 (by decide) (fun c4 => ?_) (fun c4 => ?_)
  · have hf := zt c4 hf
    refine lv_iconst (v := 0) hx hb dX9_append_22 (by decide) ?_
    obtain rfl := Option.some.inj hf
    exact ret_z (v := (0 : Int32)) C rfl hP hD hS dX9_append_23
  · have hf := zf c4 hf
    refine lv_aload_n hx hb dX9_append_7 rfl (lv_at hl 0 rfl) ?_
    refine va_get (D := D) (ci := 9) (v := .int m_h_length) (C := RX9) (T := TX9) (N := 6) hx hb hts ui_X9 hown hK hP 0 rfl rfl 1 (by decide) (hts _ fl_X9_13) (fun _ h9 => h9) rfl dX9_append_8 ?_
    refine lv_bipush (v := 8) hx hb dX9_append_11 (by decide) ?_
    refine lv_iadd hx hb dX9_append_13 ?_
    refine lv_aload_n hx hb dX9_append_14 rfl (lv_at hl 0 rfl) ?_
    refine va_get (D := D) (ci := 9) (v := .ref q_h_bytes) (C := RX9) (T := TX9) (N := 6) hx hb hts ui_X9 hown hK hP 0 rfl rfl 0 (by decide) (hts _ fl_X9_9) (fun _ h9 => h9) rfl dX9_append_15 ?_
    refine va_alen (v := (200 : Int32)) hx hb hK hP 1 0 rfl rfl rfl dX9_append_18 ?_
    refine lv_icmp_le (tgt := 24) hx hb dX9_append_19 (by decide) (fun c19 => ?_) (fun c19 => ?_)
    · have hf := zt c19 hf
      refine lv_iconst (v := 0) hx hb dX9_append_24 (by decide) ?_
      refine lv_istore_n (lv' := [(3, .int (0 : Int32)), (0, .ref h), (1, .long v1)]) hx hb dX9_append_25 rfl hl (by decide) rfl (fun ls hl => ?_)
      obtain ⟨z26, hz26, hf⟩ := zb_of hf
      refine kl_X9_append_L26 C _ _ _ _ _ _ hz26 hP hD hS (lv_sub hl [1, 2, 0] rfl) (fun H locs ls h0 hP hD hS hl => ?_)
      refine lv_aload_n hx hb dX9_append_60 rfl (lv_at hl 0 rfl) ?_
      refine lv_dup hx hb dX9_append_61 rfl ?_
      refine va_get (D := D) (ci := 9) (v := .int m_h_length) (C := RX9) (T := TX9) (N := 6) hx hb hts ui_X9 hown hK hP 0 rfl rfl 1 (by decide) (hts _ fl_X9_13) (fun _ h9 => h9) rfl dX9_append_62 ?_
      refine lv_bipush (v := 8) hx hb dX9_append_65 (by decide) ?_
      refine lv_iadd hx hb dX9_append_67 ?_
      refine lv_topi (fun x68 ex68 => ?_)
      have hf := zl_of hf x68 ex68
      refine va_put (D := D) (ci := 9) (v := .int x68) (ty := .int) (C := RX9) (T := TX9) (N := 6) hx hb hts ui_X9 tyX9 tyX9_ok nmX9 hown hK hP hD hS 0 rfl rfl 1 (by decide) (hts _ fl_X9_13) (fun _ h9 => h9) rfl rfl rfl rfl (Nat.le_of_ble_eq_true rfl) dX9_append_68 (fun H locs hP hD hS => ?_)
      have hP : va_P D vwCl [(h, .inr (9, [.ref q_h_bytes, .int x68, .int m_h_kind, .int m_h_place, .int m_h_number, .int m_h_behind])), (q_h_bytes, aB cy 200 z26.2.2)] H := hP
      have hD : va_D A [(h, .inr (9, [.ref q_h_bytes, .int x68, .int m_h_kind, .int m_h_place, .int m_h_number, .int m_h_behind])), (q_h_bytes, aB cy 200 z26.2.2)] := hD
      refine lv_iconst (v := 1) hx hb dX9_append_71 (by decide) ?_
      obtain rfl := Option.some.inj hf
      exact ret_z (v := (1 : Int32)) C rfl hP hD hS dX9_append_72
    · have hf := zf c19 hf
      refine lv_iconst (v := 0) hx hb dX9_append_22 (by decide) ?_
      obtain rfl := Option.some.inj hf
      exact ret_z (v := (0 : Int32)) C rfl hP hD hS dX9_append_23
set_option maxRecDepth 100000 in
theorem c_X9_append (l : Launch) (D : va_G) (cy : Nat → ClassId) (sz : Nat) (h q_h_bytes : Nat) (v1 : Int64) (m_h_length : Int32) (m_h_kind : Int32) (m_h_place : Int32) (m_h_number : Int32) (m_h_behind : Int32) (m_h_bytes : Nat → Int32) {z : Int32 × Int32 × (Nat → Int32)} (hf : f_X9_append v1 m_h_length m_h_bytes = some z) : Met l yX9_append (.code yX9_append cX9_append 4 (some .boolean) :: tb) ({ frames := 0, cells := 0, slots := 0, locals := 0 } : Room) (kp D cy sz [.ref h, .long v1] [(h, .inr (9, [.ref q_h_bytes, .int m_h_length, .int m_h_kind, .int m_h_place, .int m_h_number, .int m_h_behind])), (q_h_bytes, aB cy 200 m_h_bytes)]) (kqz D cy [(h, .inr (9, [.ref q_h_bytes, .int z.2.1, .int m_h_kind, .int m_h_place, .int m_h_number, .int m_h_behind])), (q_h_bytes, aB cy 200 z.2.2)] z.1 (va_A [(h, .inr (9, [.ref q_h_bytes, .int m_h_length, .int m_h_kind, .int m_h_place, .int m_h_number, .int m_h_behind])), (q_h_bytes, aB cy 200 m_h_bytes)] sz)) 0 0 (va_A [(h, .inr (9, [.ref q_h_bytes, .int m_h_length, .int m_h_kind, .int m_h_place, .int m_h_number, .int m_h_behind])), (q_h_bytes, aB cy 200 m_h_bytes)] sz) :=
  met_of (fun A => kqz D cy [(h, .inr (9, [.ref q_h_bytes, .int z.2.1, .int m_h_kind, .int m_h_place, .int m_h_number, .int m_h_behind])), (q_h_bytes, aB cy 200 z.2.2)] z.1 A) (by decide +kernel) (Nat.le_of_ble_eq_true rfl) (fun p e s m below meth c A ls C hP hD hS hl => k_X9_append C hf hP hD hS hl)
theorem hd_X9_append : yX9_append.cls ≠ "java/lang/invoke/MethodHandle" ∧ yX9_append.cls ≠ "java/lang/invoke/VarHandle" ∧ (parseMethodDescriptor yX9_append.desc).map (fun d => d.parameters.length) = some 1 := by decide +kernel
def f_X7_cutLow (v1 : Int32) (m_h_low : Int32) : Option (Int32) :=
  zb (f_J9_max_7cf53 m_h_low v1) fun z6 =>
  some z6
set_option maxHeartbeats 4000000 in
set_option maxRecDepth 100000 in
theorem k_X7_cutLow {h : Nat} {v1 : Int32} {m_h_low : Int32} {m_h_high : Int32} {z : Int32} (C : cx p s m args meth c cX7_cutLow 2 none RX7 D cy A) (hf : f_X7_cutLow v1 m_h_low = some z) (hP : va_P D vwCl [(h, .inr (7, [.int m_h_low, .int m_h_high]))] H) (hD : va_D A [(h, .inr (7, [.int m_h_low, .int m_h_high]))]) (hS : va_S A s.heap H locs) (hl : lv_has ls 2 [(0, .ref h), (1, .int v1)]) : W p l e ({ frames := 1, cells := 0, slots := 0, locals := 21 } : Room) s m args below meth c H locs 0 0 (MQ below (kqv D cy [(h, .inr (7, [.int z, .int m_h_high]))] A) args s 0 0 A) (F0 m 0 ls []) := by
  obtain ⟨hx, hb, hr, hml, hown, hts, hlk, hK, hA, hN⟩ := id C
  unfold f_X7_cutLow at hf
  refine lv_aload_n hx hb dX7_cutLow_0 rfl (lv_at hl 0 rfl) ?_
  refine lv_aload_n hx hb dX7_cutLow_1 rfl (lv_at hl 0 rfl) ?_
  refine va_get (D := D) (ci := 7) (v := .int m_h_low) (C := RX7) (T := TX7) (N := 2) hx hb hts ui_X7 hown hK hP 0 rfl rfl 0 (by decide) (hts _ fl_X7_7) (fun _ h9 => h9) rfl dX7_cutLow_2 ?_
  refine lv_iload_n hx hb dX7_cutLow_5 rfl (lv_at hl 1 rfl) ?_
  obtain ⟨z6, hz6, hf⟩ := zb_of hf
  refine goI (wr := [(h, .inr (7, [.int m_h_low, .int m_h_high]))]) (ws' := [(h, .inr (7, [.int m_h_low, .int m_h_high]))]) C (runS (n := 2) (As := [.int m_h_low, .int v1]) (rest := [.ref h]) C (c_J9_max_7cf53 l D cy H.size m_h_low v1 hz6) ml_X7_16 st_J9_max_7cf53 ii_J9 cd_J9_max_7cf53 hd_J9_max_7cf53 rfl rfl ⟨Nat.le_of_ble_eq_true rfl, Nat.le_of_ble_eq_true rfl⟩ (hP.sub [] rfl) (hD.sub [] (by decide) rfl) hS rfl hl.1 rfl (Nat.le_of_ble_eq_true rfl) dX7_cutLow_6) hP hD hS [] [0] [0] rfl rfl (by decide) (by decide) rfl (by decide) (fun H locs hP hD hS => ?_)
  refine va_put (D := D) (ci := 7) (v := .int z6) (ty := .int) (C := RX7) (T := TX7) (N := 2) hx hb hts ui_X7 tyX7 tyX7_ok nmX7 hown hK hP hD hS 0 rfl rfl 0 (by decide) (hts _ fl_X7_7) (fun _ h9 => h9) rfl rfl rfl rfl (Nat.le_of_ble_eq_true rfl) dX7_cutLow_9 (fun H locs hP hD hS => ?_)
  have hP : va_P D vwCl [(h, .inr (7, [.int z6, .int m_h_high]))] H := hP
  have hD : va_D A [(h, .inr (7, [.int z6, .int m_h_high]))] := hD
  obtain rfl := Option.some.inj hf
  exact ret_v C hP hD hS dX7_cutLow_12
set_option maxRecDepth 100000 in
theorem c_X7_cutLow (l : Launch) (D : va_G) (cy : Nat → ClassId) (sz : Nat) (h : Nat) (v1 : Int32) (m_h_low : Int32) (m_h_high : Int32) {z : Int32} (hf : f_X7_cutLow v1 m_h_low = some z) : Met l yX7_cutLow (.code yX7_cutLow cX7_cutLow 2 none :: tb) ({ frames := 1, cells := 0, slots := 0, locals := 21 } : Room) (kp D cy sz [.ref h, .int v1] [(h, .inr (7, [.int m_h_low, .int m_h_high]))]) (kqv D cy [(h, .inr (7, [.int z, .int m_h_high]))] (va_A [(h, .inr (7, [.int m_h_low, .int m_h_high]))] sz)) 0 0 (va_A [(h, .inr (7, [.int m_h_low, .int m_h_high]))] sz) :=
  met_of (fun A => kqv D cy [(h, .inr (7, [.int z, .int m_h_high]))] A) (by decide +kernel) (Nat.le_of_ble_eq_true rfl) (fun p e s m below meth c A ls C hP hD hS hl => k_X7_cutLow C hf hP hD hS hl)
theorem hd_X7_cutLow : yX7_cutLow.cls ≠ "java/lang/invoke/MethodHandle" ∧ yX7_cutLow.cls ≠ "java/lang/invoke/VarHandle" ∧ (parseMethodDescriptor yX7_cutLow.desc).map (fun d => d.parameters.length) = some 1 := by decide +kernel
def f_X7_cutHigh (v1 : Int32) (m_h_high : Int32) : Option (Int32) :=
  zb (f_J9_min_7cf53 m_h_high v1) fun z6 =>
  some z6
set_option maxHeartbeats 4000000 in
set_option maxRecDepth 100000 in
theorem k_X7_cutHigh {h : Nat} {v1 : Int32} {m_h_low : Int32} {m_h_high : Int32} {z : Int32} (C : cx p s m args meth c cX7_cutHigh 2 none RX7 D cy A) (hf : f_X7_cutHigh v1 m_h_high = some z) (hP : va_P D vwCl [(h, .inr (7, [.int m_h_low, .int m_h_high]))] H) (hD : va_D A [(h, .inr (7, [.int m_h_low, .int m_h_high]))]) (hS : va_S A s.heap H locs) (hl : lv_has ls 2 [(0, .ref h), (1, .int v1)]) : W p l e ({ frames := 1, cells := 0, slots := 0, locals := 21 } : Room) s m args below meth c H locs 0 0 (MQ below (kqv D cy [(h, .inr (7, [.int m_h_low, .int z]))] A) args s 0 0 A) (F0 m 0 ls []) := by
  obtain ⟨hx, hb, hr, hml, hown, hts, hlk, hK, hA, hN⟩ := id C
  unfold f_X7_cutHigh at hf
  refine lv_aload_n hx hb dX7_cutHigh_0 rfl (lv_at hl 0 rfl) ?_
  refine lv_aload_n hx hb dX7_cutHigh_1 rfl (lv_at hl 0 rfl) ?_
  refine va_get (D := D) (ci := 7) (v := .int m_h_high) (C := RX7) (T := TX7) (N := 2) hx hb hts ui_X7 hown hK hP 0 rfl rfl 1 (by decide) (hts _ fl_X7_13) (fun _ h9 => h9) rfl dX7_cutHigh_2 ?_
  refine lv_iload_n hx hb dX7_cutHigh_5 rfl (lv_at hl 1 rfl) ?_
  obtain ⟨z6, hz6, hf⟩ := zb_of hf
  refine goI (wr := [(h, .inr (7, [.int m_h_low, .int m_h_high]))]) (ws' := [(h, .inr (7, [.int m_h_low, .int m_h_high]))]) C (runS (n := 2) (As := [.int m_h_high, .int v1]) (rest := [.ref h]) C (c_J9_min_7cf53 l D cy H.size m_h_high v1 hz6) ml_X7_22 st_J9_min_7cf53 ii_J9 cd_J9_min_7cf53 hd_J9_min_7cf53 rfl rfl ⟨Nat.le_of_ble_eq_true rfl, Nat.le_of_ble_eq_true rfl⟩ (hP.sub [] rfl) (hD.sub [] (by decide) rfl) hS rfl hl.1 rfl (Nat.le_of_ble_eq_true rfl) dX7_cutHigh_6) hP hD hS [] [0] [0] rfl rfl (by decide) (by decide) rfl (by decide) (fun H locs hP hD hS => ?_)
  refine va_put (D := D) (ci := 7) (v := .int z6) (ty := .int) (C := RX7) (T := TX7) (N := 2) hx hb hts ui_X7 tyX7 tyX7_ok nmX7 hown hK hP hD hS 0 rfl rfl 1 (by decide) (hts _ fl_X7_13) (fun _ h9 => h9) rfl rfl rfl rfl (Nat.le_of_ble_eq_true rfl) dX7_cutHigh_9 (fun H locs hP hD hS => ?_)
  have hP : va_P D vwCl [(h, .inr (7, [.int m_h_low, .int z6]))] H := hP
  have hD : va_D A [(h, .inr (7, [.int m_h_low, .int z6]))] := hD
  obtain rfl := Option.some.inj hf
  exact ret_v C hP hD hS dX7_cutHigh_12
set_option maxRecDepth 100000 in
theorem c_X7_cutHigh (l : Launch) (D : va_G) (cy : Nat → ClassId) (sz : Nat) (h : Nat) (v1 : Int32) (m_h_low : Int32) (m_h_high : Int32) {z : Int32} (hf : f_X7_cutHigh v1 m_h_high = some z) : Met l yX7_cutHigh (.code yX7_cutHigh cX7_cutHigh 2 none :: tb) ({ frames := 1, cells := 0, slots := 0, locals := 21 } : Room) (kp D cy sz [.ref h, .int v1] [(h, .inr (7, [.int m_h_low, .int m_h_high]))]) (kqv D cy [(h, .inr (7, [.int m_h_low, .int z]))] (va_A [(h, .inr (7, [.int m_h_low, .int m_h_high]))] sz)) 0 0 (va_A [(h, .inr (7, [.int m_h_low, .int m_h_high]))] sz) :=
  met_of (fun A => kqv D cy [(h, .inr (7, [.int m_h_low, .int z]))] A) (by decide +kernel) (Nat.le_of_ble_eq_true rfl) (fun p e s m below meth c A ls C hP hD hS hl => k_X7_cutHigh C hf hP hD hS hl)
theorem hd_X7_cutHigh : yX7_cutHigh.cls ≠ "java/lang/invoke/MethodHandle" ∧ yX7_cutHigh.cls ≠ "java/lang/invoke/VarHandle" ∧ (parseMethodDescriptor yX7_cutHigh.desc).map (fun d => d.parameters.length) = some 1 := by decide +kernel
def f_X7_volts (m_h_low : Int32) (m_h_high : Int32) : Option (Int32) :=
  if m_h_low ≤ m_h_high then
    some ((m_h_high - m_h_low) + (1 : Int32))
  else
    some (0 : Int32)
set_option maxHeartbeats 4000000 in
set_option maxRecDepth 100000 in
theorem k_X7_volts {h : Nat} {m_h_low : Int32} {m_h_high : Int32} {z : Int32} (C : cx p s m args meth c cX7_volts 1 (some .int) RX7 D cy A) (hf : f_X7_volts m_h_low m_h_high = some z) (hP : va_P D vwCl [(h, .inr (7, [.int m_h_low, .int m_h_high]))] H) (hD : va_D A [(h, .inr (7, [.int m_h_low, .int m_h_high]))]) (hS : va_S A s.heap H locs) (hl : lv_has ls 1 [(0, .ref h)]) : W p l e ({ frames := 0, cells := 0, slots := 0, locals := 0 } : Room) s m args below meth c H locs 0 0 (MQ below (kqi D cy [(h, .inr (7, [.int m_h_low, .int m_h_high]))] z A) args s 0 0 A) (F0 m 0 ls []) := by
  obtain ⟨hx, hb, hr, hml, hown, hts, hlk, hK, hA, hN⟩ := id C
  unfold f_X7_volts at hf
  refine lv_aload_n hx hb dX7_volts_0 rfl (lv_at hl 0 rfl) ?_
  refine va_get (D := D) (ci := 7) (v := .int m_h_high) (C := RX7) (T := TX7) (N := 2) hx hb hts ui_X7 hown hK hP 0 rfl rfl 1 (by decide) (hts _ fl_X7_13) (fun _ h9 => h9) rfl dX7_volts_1 ?_
  refine lv_aload_n hx hb dX7_volts_4 rfl (lv_at hl 0 rfl) ?_
  refine va_get (D := D) (ci := 7) (v := .int m_h_low) (C := RX7) (T := TX7) (N := 2) hx hb hts ui_X7 hown hK hP 0 rfl rfl 0 (by decide) (hts _ fl_X7_7) (fun _ h9 => h9) rfl dX7_volts_5 ?_
  refine lv_icmp_ge (tgt := 15) hx hb dX7_volts_8 (by decide) (fun c8 => ?_) (fun c8 => ?_)
  · have hf := zt c8 hf
    refine lv_aload_n hx hb dX7_volts_15 rfl (lv_at hl 0 rfl) ?_
    refine va_get (D := D) (ci := 7) (v := .int m_h_high) (C := RX7) (T := TX7) (N := 2) hx hb hts ui_X7 hown hK hP 0 rfl rfl 1 (by decide) (hts _ fl_X7_13) (fun _ h9 => h9) rfl dX7_volts_16 ?_
    refine lv_aload_n hx hb dX7_volts_19 rfl (lv_at hl 0 rfl) ?_
    refine va_get (D := D) (ci := 7) (v := .int m_h_low) (C := RX7) (T := TX7) (N := 2) hx hb hts ui_X7 hown hK hP 0 rfl rfl 0 (by decide) (hts _ fl_X7_7) (fun _ h9 => h9) rfl dX7_volts_20 ?_
    refine lv_isub hx hb dX7_volts_23 ?_
    refine lv_iconst (v := 1) hx hb dX7_volts_24 (by decide) ?_
    refine lv_iadd hx hb dX7_volts_25 ?_
    obtain rfl := Option.some.inj hf
    exact ret_i C hP hD hS dX7_volts_26
  · have hf := zf c8 hf
    refine lv_iconst (v := 0) hx hb dX7_volts_11 (by decide) ?_
    refine lv_goto (tgt := 26) hx hb dX7_volts_12 (by decide) ?_
    obtain rfl := Option.some.inj hf
    exact ret_i C hP hD hS dX7_volts_26
set_option maxRecDepth 100000 in
theorem c_X7_volts (l : Launch) (D : va_G) (cy : Nat → ClassId) (sz : Nat) (h : Nat) (m_h_low : Int32) (m_h_high : Int32) {z : Int32} (hf : f_X7_volts m_h_low m_h_high = some z) : Met l yX7_volts (.code yX7_volts cX7_volts 1 (some .int) :: tb) ({ frames := 0, cells := 0, slots := 0, locals := 0 } : Room) (kp D cy sz [.ref h] [(h, .inr (7, [.int m_h_low, .int m_h_high]))]) (kqi D cy [(h, .inr (7, [.int m_h_low, .int m_h_high]))] z (va_A [(h, .inr (7, [.int m_h_low, .int m_h_high]))] sz)) 0 0 (va_A [(h, .inr (7, [.int m_h_low, .int m_h_high]))] sz) :=
  met_of (fun A => kqi D cy [(h, .inr (7, [.int m_h_low, .int m_h_high]))] z A) (by decide +kernel) (Nat.le_of_ble_eq_true rfl) (fun p e s m below meth c A ls C hP hD hS hl => k_X7_volts C hf hP hD hS hl)
theorem hd_X7_volts : yX7_volts.cls ≠ "java/lang/invoke/MethodHandle" ∧ yX7_volts.cls ≠ "java/lang/invoke/VarHandle" ∧ (parseMethodDescriptor yX7_volts.desc).map (fun d => d.parameters.length) = some 0 := by decide +kernel
def f_X9_rewind : Option (Int32) :=
  some (0 : Int32)
set_option maxHeartbeats 4000000 in
set_option maxRecDepth 100000 in
theorem k_X9_rewind {h q_h_bytes : Nat} {m_h_length : Int32} {m_h_kind : Int32} {m_h_place : Int32} {m_h_number : Int32} {m_h_behind : Int32} {z : Int32} (C : cx p s m args meth c cX9_rewind 1 none RX9 D cy A) (hf : f_X9_rewind = some z) (hP : va_P D vwCl [(h, .inr (9, [.ref q_h_bytes, .int m_h_length, .int m_h_kind, .int m_h_place, .int m_h_number, .int m_h_behind]))] H) (hD : va_D A [(h, .inr (9, [.ref q_h_bytes, .int m_h_length, .int m_h_kind, .int m_h_place, .int m_h_number, .int m_h_behind]))]) (hS : va_S A s.heap H locs) (hl : lv_has ls 1 [(0, .ref h)]) : W p l e ({ frames := 0, cells := 0, slots := 0, locals := 0 } : Room) s m args below meth c H locs 0 0 (MQ below (kqv D cy [(h, .inr (9, [.ref q_h_bytes, .int m_h_length, .int m_h_kind, .int m_h_place, .int m_h_number, .int z]))] A) args s 0 0 A) (F0 m 0 ls []) := by
  obtain ⟨hx, hb, hr, hml, hown, hts, hlk, hK, hA, hN⟩ := id C
  unfold f_X9_rewind at hf
  refine lv_aload_n hx hb dX9_rewind_0 rfl (lv_at hl 0 rfl) ?_
  refine lv_iconst (v := 0) hx hb dX9_rewind_1 (by decide) ?_
  refine va_put (D := D) (ci := 9) (v := .int (0 : Int32)) (ty := .int) (C := RX9) (T := TX9) (N := 6) hx hb hts ui_X9 tyX9 tyX9_ok nmX9 hown hK hP hD hS 0 rfl rfl 5 (by decide) (hts _ fl_X9_26) (fun _ h9 => h9) rfl rfl rfl rfl (Nat.le_of_ble_eq_true rfl) dX9_rewind_2 (fun H locs hP hD hS => ?_)
  have hP : va_P D vwCl [(h, .inr (9, [.ref q_h_bytes, .int m_h_length, .int m_h_kind, .int m_h_place, .int m_h_number, .int (0 : Int32)]))] H := hP
  have hD : va_D A [(h, .inr (9, [.ref q_h_bytes, .int m_h_length, .int m_h_kind, .int m_h_place, .int m_h_number, .int (0 : Int32)]))] := hD
  obtain rfl := Option.some.inj hf
  exact ret_v C hP hD hS dX9_rewind_5
set_option maxRecDepth 100000 in
theorem c_X9_rewind (l : Launch) (D : va_G) (cy : Nat → ClassId) (sz : Nat) (h q_h_bytes : Nat) (m_h_length : Int32) (m_h_kind : Int32) (m_h_place : Int32) (m_h_number : Int32) (m_h_behind : Int32) {z : Int32} (hf : f_X9_rewind = some z) : Met l yX9_rewind (.code yX9_rewind cX9_rewind 1 none :: tb) ({ frames := 0, cells := 0, slots := 0, locals := 0 } : Room) (kp D cy sz [.ref h] [(h, .inr (9, [.ref q_h_bytes, .int m_h_length, .int m_h_kind, .int m_h_place, .int m_h_number, .int m_h_behind]))]) (kqv D cy [(h, .inr (9, [.ref q_h_bytes, .int m_h_length, .int m_h_kind, .int m_h_place, .int m_h_number, .int z]))] (va_A [(h, .inr (9, [.ref q_h_bytes, .int m_h_length, .int m_h_kind, .int m_h_place, .int m_h_number, .int m_h_behind]))] sz)) 0 0 (va_A [(h, .inr (9, [.ref q_h_bytes, .int m_h_length, .int m_h_kind, .int m_h_place, .int m_h_number, .int m_h_behind]))] sz) :=
  met_of (fun A => kqv D cy [(h, .inr (9, [.ref q_h_bytes, .int m_h_length, .int m_h_kind, .int m_h_place, .int m_h_number, .int z]))] A) (by decide +kernel) (Nat.le_of_ble_eq_true rfl) (fun p e s m below meth c A ls C hP hD hS hl => k_X9_rewind C hf hP hD hS hl)
theorem hd_X9_rewind : yX9_rewind.cls ≠ "java/lang/invoke/MethodHandle" ∧ yX9_rewind.cls ≠ "java/lang/invoke/VarHandle" ∧ (parseMethodDescriptor yX9_rewind.desc).map (fun d => d.parameters.length) = some 0 := by decide +kernel
def f_X9_kindAt_J58 (v2 : Int32) : Option (Int32) :=
  if v2 = (32 : Int32) then
    some (6 : Int32)
  else
    if v2 = (45 : Int32) then
      some (3 : Int32)
    else
      if v2 = (59 : Int32) then
        some (4 : Int32)
      else
        some (5 : Int32)
set_option maxHeartbeats 4000000 in
set_option maxRecDepth 100000 in
theorem k_X9_kindAt_J58 {h q_h_bytes : Nat} {v2 : Int32} {m_h_length : Int32} {m_h_kind : Int32} {m_h_place : Int32} {m_h_number : Int32} {m_h_behind : Int32} {m_h_bytes : Nat → Int32} {z : Int32} (C : cx p s m args meth c cX9_kindAt 3 (some .int) RX9 D cy A) (hf : f_X9_kindAt_J58 v2 = some z) (hP : va_P D vwCl [(h, .inr (9, [.ref q_h_bytes, .int m_h_length, .int m_h_kind, .int m_h_place, .int m_h_number, .int m_h_behind])), (q_h_bytes, aB cy 200 m_h_bytes)] H) (hD : va_D A [(h, .inr (9, [.ref q_h_bytes, .int m_h_length, .int m_h_kind, .int m_h_place, .int m_h_number, .int m_h_behind])), (q_h_bytes, aB cy 200 m_h_bytes)]) (hS : va_S A s.heap H locs) (hl : lv_has ls 3 [(2, .int v2)]) : W p l e ({ frames := 0, cells := 0, slots := 0, locals := 0 } : Room) s m args below meth c H locs 0 0 (MQ below (kqi D cy [(h, .inr (9, [.ref q_h_bytes, .int m_h_length, .int m_h_kind, .int m_h_place, .int m_h_number, .int m_h_behind])), (q_h_bytes, aB cy 200 m_h_bytes)] z A) args s 0 0 A) (F0 m 58 ls []) := by
  obtain ⟨hx, hb, hr, hml, hown, hts, hlk, hK, hA, hN⟩ := id C
  unfold f_X9_kindAt_J58 at hf
  refine lv_iload_n hx hb dX9_kindAt_58 rfl (lv_at hl 0 rfl) ?_
  by_cases c59_32 : v2 = (32 : Int32)
  · have hf := zt c59_32 hf
    refine lv_lookup (off := 37) (tgt := 96) hx hb dX9_kindAt_59 (by decide) (by rw [c59_32] <;> rfl) (by decide) ?_
    refine lv_bipush (v := 6) hx hb dX9_kindAt_96 (by decide) ?_
    obtain rfl := Option.some.inj hf
    exact ret_i C hP hD hS dX9_kindAt_98
  have hf := zf c59_32 hf
  by_cases c59_45 : v2 = (45 : Int32)
  · have hf := zt c59_45 hf
    refine lv_lookup (off := 33) (tgt := 92) hx hb dX9_kindAt_59 (by decide) (by rw [c59_45] <;> rfl) (by decide) ?_
    refine lv_iconst (v := 3) hx hb dX9_kindAt_92 (by decide) ?_
    obtain rfl := Option.some.inj hf
    exact ret_i C hP hD hS dX9_kindAt_93
  have hf := zf c59_45 hf
  by_cases c59_59 : v2 = (59 : Int32)
  · have hf := zt c59_59 hf
    refine lv_lookup (off := 35) (tgt := 94) hx hb dX9_kindAt_59 (by decide) (by rw [c59_59] <;> rfl) (by decide) ?_
    refine lv_iconst (v := 4) hx hb dX9_kindAt_94 (by decide) ?_
    obtain rfl := Option.some.inj hf
    exact ret_i C hP hD hS dX9_kindAt_95
  have hf := zf c59_59 hf
  refine lv_lookup (off := 40) (tgt := 99) hx hb dX9_kindAt_59 (by decide) (by have q32 : (v2).toInt ≠ 32 := zne c59_32 (by decide); have q45 : (v2).toInt ≠ 45 := zne c59_45 (by decide); have q59 : (v2).toInt ≠ 59 := zne c59_59 (by decide); simp [Op.lookupswitch.offset, Ne.symm q32, Ne.symm q45, Ne.symm q59]) (by decide) ?_
  refine lv_iconst (v := 5) hx hb dX9_kindAt_99 (by decide) ?_
  obtain rfl := Option.some.inj hf
  exact ret_i C hP hD hS dX9_kindAt_100
def f_X9_kindAt_J44 (v2 : Int32) : Option (Int32) :=
  if v2 < (48 : Int32) then
    f_X9_kindAt_J58 v2
  else
    if (57 : Int32) < v2 then
      f_X9_kindAt_J58 v2
    else
      some (2 : Int32)
set_option maxHeartbeats 4000000 in
set_option maxRecDepth 100000 in
theorem k_X9_kindAt_J44 {h q_h_bytes : Nat} {v2 : Int32} {m_h_length : Int32} {m_h_kind : Int32} {m_h_place : Int32} {m_h_number : Int32} {m_h_behind : Int32} {m_h_bytes : Nat → Int32} {z : Int32} (C : cx p s m args meth c cX9_kindAt 3 (some .int) RX9 D cy A) (hf : f_X9_kindAt_J44 v2 = some z) (hP : va_P D vwCl [(h, .inr (9, [.ref q_h_bytes, .int m_h_length, .int m_h_kind, .int m_h_place, .int m_h_number, .int m_h_behind])), (q_h_bytes, aB cy 200 m_h_bytes)] H) (hD : va_D A [(h, .inr (9, [.ref q_h_bytes, .int m_h_length, .int m_h_kind, .int m_h_place, .int m_h_number, .int m_h_behind])), (q_h_bytes, aB cy 200 m_h_bytes)]) (hS : va_S A s.heap H locs) (hl : lv_has ls 3 [(2, .int v2)]) : W p l e ({ frames := 0, cells := 0, slots := 0, locals := 0 } : Room) s m args below meth c H locs 0 0 (MQ below (kqi D cy [(h, .inr (9, [.ref q_h_bytes, .int m_h_length, .int m_h_kind, .int m_h_place, .int m_h_number, .int m_h_behind])), (q_h_bytes, aB cy 200 m_h_bytes)] z A) args s 0 0 A) (F0 m 44 ls []) := by
  obtain ⟨hx, hb, hr, hml, hown, hts, hlk, hK, hA, hN⟩ := id C
  unfold f_X9_kindAt_J44 at hf
  refine lv_iload_n hx hb dX9_kindAt_44 rfl (lv_at hl 0 rfl) ?_
  refine lv_bipush (v := 48) hx hb dX9_kindAt_45 (by decide) ?_
  refine lv_icmp_lt (tgt := 58) hx hb dX9_kindAt_47 (by decide) (fun c47 => ?_) (fun c47 => ?_)
  · have hf := zt c47 hf
    exact k_X9_kindAt_J58 C hf hP hD hS (lv_sub hl [0] rfl)
  · have hf := zf c47 hf
    refine lv_iload_n hx hb dX9_kindAt_50 rfl (lv_at hl 0 rfl) ?_
    refine lv_bipush (v := 57) hx hb dX9_kindAt_51 (by decide) ?_
    refine lv_icmp_gt (tgt := 58) hx hb dX9_kindAt_53 (by decide) (fun c53 => ?_) (fun c53 => ?_)
    · have hf := zt c53 hf
      exact k_X9_kindAt_J58 C hf hP hD hS (lv_sub hl [0] rfl)
    · have hf := zf c53 hf
      refine lv_iconst (v := 2) hx hb dX9_kindAt_56 (by decide) ?_
      obtain rfl := Option.some.inj hf
      exact ret_i C hP hD hS dX9_kindAt_57
def f_X9_kindAt (v1 : Int32) (m_h_length : Int32) (m_h_bytes : Nat → Int32) : Option (Int32) :=
  if v1 < 0 then
    some (0 : Int32)
  else
    if m_h_length ≤ v1 then
      some (0 : Int32)
    else
      if v1 < (200 : Int32) then
        zc v1 200 <|
        zl (m_h_bytes v1.toNatClampNeg) fun x29 =>
        if x29 < (97 : Int32) then
          f_X9_kindAt_J44 x29
        else
          if (122 : Int32) < x29 then
            f_X9_kindAt_J44 x29
          else
            some (1 : Int32)
      else
        some (0 : Int32)
set_option maxHeartbeats 4000000 in
set_option maxRecDepth 100000 in
theorem k_X9_kindAt {h q_h_bytes : Nat} {v1 : Int32} {m_h_length : Int32} {m_h_kind : Int32} {m_h_place : Int32} {m_h_number : Int32} {m_h_behind : Int32} {m_h_bytes : Nat → Int32} {z : Int32} (C : cx p s m args meth c cX9_kindAt 3 (some .int) RX9 D cy A) (hf : f_X9_kindAt v1 m_h_length m_h_bytes = some z) (hP : va_P D vwCl [(h, .inr (9, [.ref q_h_bytes, .int m_h_length, .int m_h_kind, .int m_h_place, .int m_h_number, .int m_h_behind])), (q_h_bytes, aB cy 200 m_h_bytes)] H) (hD : va_D A [(h, .inr (9, [.ref q_h_bytes, .int m_h_length, .int m_h_kind, .int m_h_place, .int m_h_number, .int m_h_behind])), (q_h_bytes, aB cy 200 m_h_bytes)]) (hS : va_S A s.heap H locs) (hl : lv_has ls 3 [(0, .ref h), (1, .int v1)]) : W p l e ({ frames := 0, cells := 0, slots := 0, locals := 0 } : Room) s m args below meth c H locs 0 0 (MQ below (kqi D cy [(h, .inr (9, [.ref q_h_bytes, .int m_h_length, .int m_h_kind, .int m_h_place, .int m_h_number, .int m_h_behind])), (q_h_bytes, aB cy 200 m_h_bytes)] z A) args s 0 0 A) (F0 m 0 ls []) := by
  obtain ⟨hx, hb, hr, hml, hown, hts, hlk, hK, hA, hN⟩ := id C
  unfold f_X9_kindAt at hf
  refine lv_iload_n hx hb dX9_kindAt_0 rfl (lv_at hl 1 rfl) ?_
  refine lv_if_lt (tgt := 21) hx hb dX9_kindAt_1 (by decide) (fun c1 => ?_) (fun c1 => ?_)
  · have hf := zt c1 hf
    refine lv_iconst (v := 0) hx hb dX9_kindAt_21 (by decide) ?_
    obtain rfl := Option.some.inj hf
    exact ret_i C hP hD hS dX9_kindAt_22
  · have hf := zf c1 hf
    refine lv_iload_n hx hb dX9_kindAt_4 rfl (lv_at hl 1 rfl) ?_
    refine lv_aload_n hx hb dX9_kindAt_5 rfl (lv_at hl 0 rfl) ?_
    refine va_get (D := D) (ci := 9) (v := .int m_h_length) (C := RX9) (T := TX9) (N := 6) hx hb hts ui_X9 hown hK hP 0 rfl rfl 1 (by decide) (hts _ fl_X9_13) (fun _ h9 => h9) rfl dX9_kindAt_6 ?_
    refine lv_icmp_ge (tgt := 21) hx hb dX9_kindAt_9 (by decide) (fun c9 => ?_) (fun c9 => ?_)
    · have hf := zt c9 hf
      refine lv_iconst (v := 0) hx hb dX9_kindAt_21 (by decide) ?_
      obtain rfl := Option.some.inj hf
      exact ret_i C hP hD hS dX9_kindAt_22
    · have hf := zf c9 hf
      refine lv_iload_n hx hb dX9_kindAt_12 rfl (lv_at hl 1 rfl) ?_
      refine lv_aload_n hx hb dX9_kindAt_13 rfl (lv_at hl 0 rfl) ?_
      refine va_get (D := D) (ci := 9) (v := .ref q_h_bytes) (C := RX9) (T := TX9) (N := 6) hx hb hts ui_X9 hown hK hP 0 rfl rfl 0 (by decide) (hts _ fl_X9_9) (fun _ h9 => h9) rfl dX9_kindAt_14 ?_
      refine va_alen (v := (200 : Int32)) hx hb hK hP 1 0 rfl rfl rfl dX9_kindAt_17 ?_
      refine lv_icmp_lt (tgt := 23) hx hb dX9_kindAt_18 (by decide) (fun c18 => ?_) (fun c18 => ?_)
      · have hf := zt c18 hf
        refine lv_aload_n hx hb dX9_kindAt_23 rfl (lv_at hl 0 rfl) ?_
        refine va_get (D := D) (ci := 9) (v := .ref q_h_bytes) (C := RX9) (T := TX9) (N := 6) hx hb hts ui_X9 hown hK hP 0 rfl rfl 0 (by decide) (hts _ fl_X9_9) (fun _ h9 => h9) rfl dX9_kindAt_24 ?_
        refine lv_iload_n hx hb dX9_kindAt_27 rfl (lv_at hl 1 rfl) ?_
        obtain ⟨hin, hf⟩ := zc_of hf
        refine va_bald hx hb hK hP 1 0 rfl rfl hin dX9_kindAt_28 ?_
        refine lv_topi (fun x29 ex29 => ?_)
        have hf := zl_of hf x29 ex29
        refine lv_istore_n (lv' := [(2, .int x29), (0, .ref h), (1, .int v1)]) hx hb dX9_kindAt_29 rfl hl (by decide) rfl (fun ls hl => ?_)
        refine lv_iload_n hx hb dX9_kindAt_30 rfl (lv_at hl 0 rfl) ?_
        refine lv_bipush (v := 97) hx hb dX9_kindAt_31 (by decide) ?_
        refine lv_icmp_lt (tgt := 44) hx hb dX9_kindAt_33 (by decide) (fun c33 => ?_) (fun c33 => ?_)
        · have hf := zt c33 hf
          exact k_X9_kindAt_J44 C hf hP hD hS (lv_sub hl [0] rfl)
        · have hf := zf c33 hf
          refine lv_iload_n hx hb dX9_kindAt_36 rfl (lv_at hl 0 rfl) ?_
          refine lv_bipush (v := 122) hx hb dX9_kindAt_37 (by decide) ?_
          refine lv_icmp_gt (tgt := 44) hx hb dX9_kindAt_39 (by decide) (fun c39 => ?_) (fun c39 => ?_)
          · have hf := zt c39 hf
            exact k_X9_kindAt_J44 C hf hP hD hS (lv_sub hl [0] rfl)
          · have hf := zf c39 hf
            refine lv_iconst (v := 1) hx hb dX9_kindAt_42 (by decide) ?_
            obtain rfl := Option.some.inj hf
            exact ret_i C hP hD hS dX9_kindAt_43
      · have hf := zf c18 hf
        refine lv_iconst (v := 0) hx hb dX9_kindAt_21 (by decide) ?_
        obtain rfl := Option.some.inj hf
        exact ret_i C hP hD hS dX9_kindAt_22
set_option maxRecDepth 100000 in
theorem c_X9_kindAt (l : Launch) (D : va_G) (cy : Nat → ClassId) (sz : Nat) (h q_h_bytes : Nat) (v1 : Int32) (m_h_length : Int32) (m_h_kind : Int32) (m_h_place : Int32) (m_h_number : Int32) (m_h_behind : Int32) (m_h_bytes : Nat → Int32) {z : Int32} (hf : f_X9_kindAt v1 m_h_length m_h_bytes = some z) : Met l yX9_kindAt (.code yX9_kindAt cX9_kindAt 3 (some .int) :: tb) ({ frames := 0, cells := 0, slots := 0, locals := 0 } : Room) (kp D cy sz [.ref h, .int v1] [(h, .inr (9, [.ref q_h_bytes, .int m_h_length, .int m_h_kind, .int m_h_place, .int m_h_number, .int m_h_behind])), (q_h_bytes, aB cy 200 m_h_bytes)]) (kqi D cy [(h, .inr (9, [.ref q_h_bytes, .int m_h_length, .int m_h_kind, .int m_h_place, .int m_h_number, .int m_h_behind])), (q_h_bytes, aB cy 200 m_h_bytes)] z (va_A [(h, .inr (9, [.ref q_h_bytes, .int m_h_length, .int m_h_kind, .int m_h_place, .int m_h_number, .int m_h_behind])), (q_h_bytes, aB cy 200 m_h_bytes)] sz)) 0 0 (va_A [(h, .inr (9, [.ref q_h_bytes, .int m_h_length, .int m_h_kind, .int m_h_place, .int m_h_number, .int m_h_behind])), (q_h_bytes, aB cy 200 m_h_bytes)] sz) :=
  met_of (fun A => kqi D cy [(h, .inr (9, [.ref q_h_bytes, .int m_h_length, .int m_h_kind, .int m_h_place, .int m_h_number, .int m_h_behind])), (q_h_bytes, aB cy 200 m_h_bytes)] z A) (by decide +kernel) (Nat.le_of_ble_eq_true rfl) (fun p e s m below meth c A ls C hP hD hS hl => k_X9_kindAt C hf hP hD hS hl)
theorem hd_X9_kindAt : yX9_kindAt.cls ≠ "java/lang/invoke/MethodHandle" ∧ yX9_kindAt.cls ≠ "java/lang/invoke/VarHandle" ∧ (parseMethodDescriptor yX9_kindAt.desc).map (fun d => d.parameters.length) = some 1 := by decide +kernel
def f_X9_readFigures_L29 (m_h_behind : Int32) (m_h_bytes : Nat → Int32) (w : Int32 × Int32) : Option (Nat × (Int32 × Int32)) :=
  if m_h_behind ≤ w.1 then
    some (1, (w.1, w.2))
  else
    if (200 : Int32) ≤ w.1 then
      some (1, (w.1, w.2))
    else
      zc w.1 200 <|
      zl (((w.2 * (10 : Int32)) + (m_h_bytes w.1.toNatClampNeg)) - (48 : Int32)) fun x64 =>
      zl (w.1 + (1 : Int32)) fun x67 =>
      some (0, (x67, x64))
set_option maxHeartbeats 4000000 in
set_option maxRecDepth 100000 in
theorem k_X9_readFigures_L29 {h q_h_bytes : Nat} {m_h_length : Int32} {m_h_kind : Int32} {m_h_place : Int32} {m_h_behind : Int32} {m_h_bytes : Nat → Int32} {w : Int32 × Int32} {z : Nat × (Int32 × Int32)} (C : cx p s m args meth c cX9_readFigures 2 none RX9 D cy A) (hf : f_X9_readFigures_L29 m_h_behind m_h_bytes w = some z) (hP : va_P D vwCl [(h, .inr (9, [.ref q_h_bytes, .int m_h_length, .int m_h_kind, .int m_h_place, .int w.2, .int m_h_behind])), (q_h_bytes, aB cy 200 m_h_bytes)] H) (hD : va_D A [(h, .inr (9, [.ref q_h_bytes, .int m_h_length, .int m_h_kind, .int m_h_place, .int w.2, .int m_h_behind])), (q_h_bytes, aB cy 200 m_h_bytes)]) (hS : va_S A s.heap H locs) (hl : lv_has ls 2 [(0, .ref h), (1, .int w.1)]) (hE0 : ∀ (H : Heap) (locs : List Loc) (ls : Array Slot), z.1 = 0 → va_P D vwCl [(h, .inr (9, [.ref q_h_bytes, .int m_h_length, .int m_h_kind, .int m_h_place, .int z.2.2, .int m_h_behind])), (q_h_bytes, aB cy 200 m_h_bytes)] H → va_D A [(h, .inr (9, [.ref q_h_bytes, .int m_h_length, .int m_h_kind, .int m_h_place, .int z.2.2, .int m_h_behind])), (q_h_bytes, aB cy 200 m_h_bytes)] → va_S A s.heap H locs → lv_has ls 2 [(0, .ref h), (1, .int z.2.1)] → W p l e ({ frames := 0, cells := 0, slots := 0, locals := 0 } : Room) s m args below meth c H locs 0 0 Q (F0 m 29 ls [])) (hE1 : ∀ (H : Heap) (locs : List Loc) (ls : Array Slot), z.1 = 1 → va_P D vwCl [(h, .inr (9, [.ref q_h_bytes, .int m_h_length, .int m_h_kind, .int m_h_place, .int z.2.2, .int m_h_behind])), (q_h_bytes, aB cy 200 m_h_bytes)] H → va_D A [(h, .inr (9, [.ref q_h_bytes, .int m_h_length, .int m_h_kind, .int m_h_place, .int z.2.2, .int m_h_behind])), (q_h_bytes, aB cy 200 m_h_bytes)] → va_S A s.heap H locs → lv_has ls 2 [] → W p l e ({ frames := 0, cells := 0, slots := 0, locals := 0 } : Room) s m args below meth c H locs 0 0 Q (F0 m 73 ls [])) : W p l e ({ frames := 0, cells := 0, slots := 0, locals := 0 } : Room) s m args below meth c H locs 0 0 Q (F0 m 29 ls []) := by
  obtain ⟨hx, hb, hr, hml, hown, hts, hlk, hK, hA, hN⟩ := id C
  unfold f_X9_readFigures_L29 at hf
  refine lv_iload_n hx hb dX9_readFigures_29 rfl (lv_at hl 1 rfl) ?_
  refine lv_aload_n hx hb dX9_readFigures_30 rfl (lv_at hl 0 rfl) ?_
  refine va_get (D := D) (ci := 9) (v := .int m_h_behind) (C := RX9) (T := TX9) (N := 6) hx hb hts ui_X9 hown hK hP 0 rfl rfl 5 (by decide) (hts _ fl_X9_26) (fun _ h9 => h9) rfl dX9_readFigures_31 ?_
  refine lv_icmp_ge (tgt := 73) hx hb dX9_readFigures_34 (by decide) (fun c34 => ?_) (fun c34 => ?_)
  · have hf := zt c34 hf
    obtain rfl := Option.some.inj hf
    exact hE1 _ _ _ rfl hP hD hS (lv_sub hl [] rfl)
  · have hf := zf c34 hf
    refine lv_iload_n hx hb dX9_readFigures_37 rfl (lv_at hl 1 rfl) ?_
    refine lv_aload_n hx hb dX9_readFigures_38 rfl (lv_at hl 0 rfl) ?_
    refine va_get (D := D) (ci := 9) (v := .ref q_h_bytes) (C := RX9) (T := TX9) (N := 6) hx hb hts ui_X9 hown hK hP 0 rfl rfl 0 (by decide) (hts _ fl_X9_9) (fun _ h9 => h9) rfl dX9_readFigures_39 ?_
    refine va_alen (v := (200 : Int32)) hx hb hK hP 1 0 rfl rfl rfl dX9_readFigures_42 ?_
    refine lv_icmp_ge (tgt := 73) hx hb dX9_readFigures_43 (by decide) (fun c43 => ?_) (fun c43 => ?_)
    · have hf := zt c43 hf
      obtain rfl := Option.some.inj hf
      exact hE1 _ _ _ rfl hP hD hS (lv_sub hl [] rfl)
    · have hf := zf c43 hf
      refine lv_aload_n hx hb dX9_readFigures_46 rfl (lv_at hl 0 rfl) ?_
      refine lv_aload_n hx hb dX9_readFigures_47 rfl (lv_at hl 0 rfl) ?_
      refine va_get (D := D) (ci := 9) (v := .int w.2) (C := RX9) (T := TX9) (N := 6) hx hb hts ui_X9 hown hK hP 0 rfl rfl 4 (by decide) (hts _ fl_X9_23) (fun _ h9 => h9) rfl dX9_readFigures_48 ?_
      refine lv_bipush (v := 10) hx hb dX9_readFigures_51 (by decide) ?_
      refine lv_imul hx hb dX9_readFigures_53 ?_
      refine lv_aload_n hx hb dX9_readFigures_54 rfl (lv_at hl 0 rfl) ?_
      refine va_get (D := D) (ci := 9) (v := .ref q_h_bytes) (C := RX9) (T := TX9) (N := 6) hx hb hts ui_X9 hown hK hP 0 rfl rfl 0 (by decide) (hts _ fl_X9_9) (fun _ h9 => h9) rfl dX9_readFigures_55 ?_
      refine lv_iload_n hx hb dX9_readFigures_58 rfl (lv_at hl 1 rfl) ?_
      obtain ⟨hin, hf⟩ := zc_of hf
      refine va_bald hx hb hK hP 1 0 rfl rfl hin dX9_readFigures_59 ?_
      refine lv_iadd hx hb dX9_readFigures_60 ?_
      refine lv_bipush (v := 48) hx hb dX9_readFigures_61 (by decide) ?_
      refine lv_isub hx hb dX9_readFigures_63 ?_
      refine lv_topi (fun x64 ex64 => ?_)
      have hf := zl_of hf x64 ex64
      refine va_put (D := D) (ci := 9) (v := .int x64) (ty := .int) (C := RX9) (T := TX9) (N := 6) hx hb hts ui_X9 tyX9 tyX9_ok nmX9 hown hK hP hD hS 0 rfl rfl 4 (by decide) (hts _ fl_X9_23) (fun _ h9 => h9) rfl rfl rfl rfl (Nat.le_of_ble_eq_true rfl) dX9_readFigures_64 (fun H locs hP hD hS => ?_)
      have hP : va_P D vwCl [(h, .inr (9, [.ref q_h_bytes, .int m_h_length, .int m_h_kind, .int m_h_place, .int x64, .int m_h_behind])), (q_h_bytes, aB cy 200 m_h_bytes)] H := hP
      have hD : va_D A [(h, .inr (9, [.ref q_h_bytes, .int m_h_length, .int m_h_kind, .int m_h_place, .int x64, .int m_h_behind])), (q_h_bytes, aB cy 200 m_h_bytes)] := hD
      obtain ⟨x67, ex67⟩ : ∃ y : Int32, y = w.1 + (1 : Int32) := ⟨_, rfl⟩
      have hf := zl_of hf x67 ex67
      refine lv_iinc (v := x67) (lv' := [(1, .int x67), (0, .ref h)]) hx hb dX9_readFigures_67 hl (k := 1) rfl (by rw [ex67]; rfl) (by decide) rfl (fun ls hl => ?_)
      refine lv_goto (tgt := 29) hx hb dX9_readFigures_70 (by decide) ?_
      obtain rfl := Option.some.inj hf
      exact hE0 _ _ _ rfl hP hD hS (lv_sub hl [1, 0] rfl)
set_option maxHeartbeats 4000000 in
set_option maxRecDepth 100000 in
theorem kl_X9_readFigures_L29 {h q_h_bytes : Nat} {m_h_length : Int32} {m_h_kind : Int32} {m_h_place : Int32} {m_h_behind : Int32} {m_h_bytes : Nat → Int32} (C : cx p s m args meth c cX9_readFigures 2 none RX9 D cy A) : ∀ (n : Nat) (w : Int32 × Int32) (z : Nat × (Int32 × Int32)) (H : Heap) (locs : List Loc) (ls : Array Slot), zp (f_X9_readFigures_L29 m_h_behind m_h_bytes) n w = some z → va_P D vwCl [(h, .inr (9, [.ref q_h_bytes, .int m_h_length, .int m_h_kind, .int m_h_place, .int w.2, .int m_h_behind])), (q_h_bytes, aB cy 200 m_h_bytes)] H → va_D A [(h, .inr (9, [.ref q_h_bytes, .int m_h_length, .int m_h_kind, .int m_h_place, .int w.2, .int m_h_behind])), (q_h_bytes, aB cy 200 m_h_bytes)] → va_S A s.heap H locs → lv_has ls 2 [(0, .ref h), (1, .int w.1)] → (∀ (H : Heap) (locs : List Loc) (ls : Array Slot), z.1 = 1 → va_P D vwCl [(h, .inr (9, [.ref q_h_bytes, .int m_h_length, .int m_h_kind, .int m_h_place, .int z.2.2, .int m_h_behind])), (q_h_bytes, aB cy 200 m_h_bytes)] H → va_D A [(h, .inr (9, [.ref q_h_bytes, .int m_h_length, .int m_h_kind, .int m_h_place, .int z.2.2, .int m_h_behind])), (q_h_bytes, aB cy 200 m_h_bytes)] → va_S A s.heap H locs → lv_has ls 2 [] → W p l e ({ frames := 0, cells := 0, slots := 0, locals := 0 } : Room) s m args below meth c H locs 0 0 Q (F0 m 73 ls [])) → W p l e ({ frames := 0, cells := 0, slots := 0, locals := 0 } : Room) s m args below meth c H locs 0 0 Q (F0 m 29 ls []) := by
  intro n
  induction n with
  | zero => intro w z H locs ls hf; cases hf
  | succ n ih =>
    intro w z H locs ls hf hP hD hS hl hE1
    obtain ⟨w1, hw, hd⟩ := zp_s hf
    refine k_X9_readFigures_L29 C hw hP hD hS hl (fun H locs ls h0 hP hD hS hl => ?_) (fun H locs ls h0 hP hD hS hl => ?_)
    · rcases hd with ⟨_, h⟩ | ⟨h, _⟩
      · exact ih _ _ _ _ _ h hP hD hS hl hE1
      · exact absurd h0 h
    · rcases hd with ⟨h, _⟩ | ⟨_, h⟩
      · exact absurd (h.symm.trans h0) (by decide)
      · subst h; exact hE1 _ _ _ h0 hP hD hS hl
def f_X9_readFigures (m_h_kind : Int32) (m_h_place : Int32) (m_h_number : Int32) (m_h_behind : Int32) (m_h_bytes : Nat → Int32) : Option (Int32 × Int32) :=
  if (m_h_behind - m_h_place) ≤ (3 : Int32) then
    zb (zp (f_X9_readFigures_L29 m_h_behind m_h_bytes) zF (m_h_place, (0 : Int32))) fun z29 =>
    some (m_h_kind, z29.2.2)
  else
    some ((5 : Int32), m_h_number)
set_option maxHeartbeats 4000000 in
set_option maxRecDepth 100000 in
theorem k_X9_readFigures {h q_h_bytes : Nat} {m_h_length : Int32} {m_h_kind : Int32} {m_h_place : Int32} {m_h_number : Int32} {m_h_behind : Int32} {m_h_bytes : Nat → Int32} {z : Int32 × Int32} (C : cx p s m args meth c cX9_readFigures 2 none RX9 D cy A) (hf : f_X9_readFigures m_h_kind m_h_place m_h_number m_h_behind m_h_bytes = some z) (hP : va_P D vwCl [(h, .inr (9, [.ref q_h_bytes, .int m_h_length, .int m_h_kind, .int m_h_place, .int m_h_number, .int m_h_behind])), (q_h_bytes, aB cy 200 m_h_bytes)] H) (hD : va_D A [(h, .inr (9, [.ref q_h_bytes, .int m_h_length, .int m_h_kind, .int m_h_place, .int m_h_number, .int m_h_behind])), (q_h_bytes, aB cy 200 m_h_bytes)]) (hS : va_S A s.heap H locs) (hl : lv_has ls 2 [(0, .ref h)]) : W p l e ({ frames := 0, cells := 0, slots := 0, locals := 0 } : Room) s m args below meth c H locs 0 0 (MQ below (kqv D cy [(h, .inr (9, [.ref q_h_bytes, .int m_h_length, .int z.1, .int m_h_place, .int z.2, .int m_h_behind])), (q_h_bytes, aB cy 200 m_h_bytes)] A) args s 0 0 A) (F0 m 0 ls []) := by
  obtain ⟨hx, hb, hr, hml, hown, hts, hlk, hK, hA, hN⟩ := id C
  unfold f_X9_readFigures at hf
  refine lv_aload_n hx hb dX9_readFigures_0 rfl (lv_at hl 0 rfl) ?_
  refine va_get (D := D) (ci := 9) (v := .int m_h_behind) (C := RX9) (T := TX9) (N := 6) hx hb hts ui_X9 hown hK hP 0 rfl rfl 5 (by decide) (hts _ fl_X9_26) (fun _ h9 => h9) rfl dX9_readFigures_1 ?_
  refine lv_aload_n hx hb dX9_readFigures_4 rfl (lv_at hl 0 rfl) ?_
  refine va_get (D := D) (ci := 9) (v := .int m_h_place) (C := RX9) (T := TX9) (N := 6) hx hb hts ui_X9 hown hK hP 0 rfl rfl 3 (by decide) (hts _ fl_X9_20) (fun _ h9 => h9) rfl dX9_readFigures_5 ?_
  refine lv_isub hx hb dX9_readFigures_8 ?_
  refine lv_iconst (v := 3) hx hb dX9_readFigures_9 (by decide) ?_
  refine lv_icmp_le (tgt := 19) hx hb dX9_readFigures_10 (by decide) (fun c10 => ?_) (fun c10 => ?_)
  · have hf := zt c10 hf
    refine lv_aload_n hx hb dX9_readFigures_19 rfl (lv_at hl 0 rfl) ?_
    refine lv_iconst (v := 0) hx hb dX9_readFigures_20 (by decide) ?_
    refine va_put (D := D) (ci := 9) (v := .int (0 : Int32)) (ty := .int) (C := RX9) (T := TX9) (N := 6) hx hb hts ui_X9 tyX9 tyX9_ok nmX9 hown hK hP hD hS 0 rfl rfl 4 (by decide) (hts _ fl_X9_23) (fun _ h9 => h9) rfl rfl rfl rfl (Nat.le_of_ble_eq_true rfl) dX9_readFigures_21 (fun H locs hP hD hS => ?_)
    have hP : va_P D vwCl [(h, .inr (9, [.ref q_h_bytes, .int m_h_length, .int m_h_kind, .int m_h_place, .int (0 : Int32), .int m_h_behind])), (q_h_bytes, aB cy 200 m_h_bytes)] H := hP
    have hD : va_D A [(h, .inr (9, [.ref q_h_bytes, .int m_h_length, .int m_h_kind, .int m_h_place, .int (0 : Int32), .int m_h_behind])), (q_h_bytes, aB cy 200 m_h_bytes)] := hD
    refine lv_aload_n hx hb dX9_readFigures_24 rfl (lv_at hl 0 rfl) ?_
    refine va_get (D := D) (ci := 9) (v := .int m_h_place) (C := RX9) (T := TX9) (N := 6) hx hb hts ui_X9 hown hK hP 0 rfl rfl 3 (by decide) (hts _ fl_X9_20) (fun _ h9 => h9) rfl dX9_readFigures_25 ?_
    refine lv_istore_n (lv' := [(1, .int m_h_place), (0, .ref h)]) hx hb dX9_readFigures_28 rfl hl (by decide) rfl (fun ls hl => ?_)
    obtain ⟨z29, hz29, hf⟩ := zb_of hf
    refine kl_X9_readFigures_L29 C _ _ _ _ _ _ hz29 hP hD hS (lv_sub hl [1, 0] rfl) (fun H locs ls h0 hP hD hS hl => ?_)
    obtain rfl := Option.some.inj hf
    exact ret_v C hP hD hS dX9_readFigures_73
  · have hf := zf c10 hf
    refine lv_aload_n hx hb dX9_readFigures_13 rfl (lv_at hl 0 rfl) ?_
    refine lv_iconst (v := 5) hx hb dX9_readFigures_14 (by decide) ?_
    refine va_put (D := D) (ci := 9) (v := .int (5 : Int32)) (ty := .int) (C := RX9) (T := TX9) (N := 6) hx hb hts ui_X9 tyX9 tyX9_ok nmX9 hown hK hP hD hS 0 rfl rfl 2 (by decide) (hts _ fl_X9_17) (fun _ h9 => h9) rfl rfl rfl rfl (Nat.le_of_ble_eq_true rfl) dX9_readFigures_15 (fun H locs hP hD hS => ?_)
    have hP : va_P D vwCl [(h, .inr (9, [.ref q_h_bytes, .int m_h_length, .int (5 : Int32), .int m_h_place, .int m_h_number, .int m_h_behind])), (q_h_bytes, aB cy 200 m_h_bytes)] H := hP
    have hD : va_D A [(h, .inr (9, [.ref q_h_bytes, .int m_h_length, .int (5 : Int32), .int m_h_place, .int m_h_number, .int m_h_behind])), (q_h_bytes, aB cy 200 m_h_bytes)] := hD
    obtain rfl := Option.some.inj hf
    exact ret_v C hP hD hS dX9_readFigures_18
set_option maxRecDepth 100000 in
theorem c_X9_readFigures (l : Launch) (D : va_G) (cy : Nat → ClassId) (sz : Nat) (h q_h_bytes : Nat) (m_h_length : Int32) (m_h_kind : Int32) (m_h_place : Int32) (m_h_number : Int32) (m_h_behind : Int32) (m_h_bytes : Nat → Int32) {z : Int32 × Int32} (hf : f_X9_readFigures m_h_kind m_h_place m_h_number m_h_behind m_h_bytes = some z) : Met l yX9_readFigures (.code yX9_readFigures cX9_readFigures 2 none :: tb) ({ frames := 0, cells := 0, slots := 0, locals := 0 } : Room) (kp D cy sz [.ref h] [(h, .inr (9, [.ref q_h_bytes, .int m_h_length, .int m_h_kind, .int m_h_place, .int m_h_number, .int m_h_behind])), (q_h_bytes, aB cy 200 m_h_bytes)]) (kqv D cy [(h, .inr (9, [.ref q_h_bytes, .int m_h_length, .int z.1, .int m_h_place, .int z.2, .int m_h_behind])), (q_h_bytes, aB cy 200 m_h_bytes)] (va_A [(h, .inr (9, [.ref q_h_bytes, .int m_h_length, .int m_h_kind, .int m_h_place, .int m_h_number, .int m_h_behind])), (q_h_bytes, aB cy 200 m_h_bytes)] sz)) 0 0 (va_A [(h, .inr (9, [.ref q_h_bytes, .int m_h_length, .int m_h_kind, .int m_h_place, .int m_h_number, .int m_h_behind])), (q_h_bytes, aB cy 200 m_h_bytes)] sz) :=
  met_of (fun A => kqv D cy [(h, .inr (9, [.ref q_h_bytes, .int m_h_length, .int z.1, .int m_h_place, .int z.2, .int m_h_behind])), (q_h_bytes, aB cy 200 m_h_bytes)] A) (by decide +kernel) (Nat.le_of_ble_eq_true rfl) (fun p e s m below meth c A ls C hP hD hS hl => k_X9_readFigures C hf hP hD hS hl)
theorem hd_X9_readFigures : yX9_readFigures.cls ≠ "java/lang/invoke/MethodHandle" ∧ yX9_readFigures.cls ≠ "java/lang/invoke/VarHandle" ∧ (parseMethodDescriptor yX9_readFigures.desc).map (fun d => d.parameters.length) = some 0 := by decide +kernel
def f_X9_advance_L8 (m_h_length : Int32) (m_h_bytes : Nat → Int32) (w : Int32) : Option (Nat × (Int32)) :=
  if m_h_length ≤ w then
    some (1, w)
  else
    zb (f_X9_kindAt w m_h_length m_h_bytes) fun z24 =>
    if z24 = (6 : Int32) then
      zl (w + (1 : Int32)) fun x39 =>
      some (0, x39)
    else
      some (1, w)
set_option maxHeartbeats 4000000 in
set_option maxRecDepth 100000 in
theorem k_X9_advance_L8 {h q_h_bytes : Nat} {m_h_length : Int32} {m_h_kind : Int32} {m_h_number : Int32} {m_h_behind : Int32} {m_h_bytes : Nat → Int32} {w : Int32} {z : Nat × (Int32)} (C : cx p s m args meth c cX9_advance 1 none RX9 D cy A) (hf : f_X9_advance_L8 m_h_length m_h_bytes w = some z) (hP : va_P D vwCl [(h, .inr (9, [.ref q_h_bytes, .int m_h_length, .int m_h_kind, .int w, .int m_h_number, .int m_h_behind])), (q_h_bytes, aB cy 200 m_h_bytes)] H) (hD : va_D A [(h, .inr (9, [.ref q_h_bytes, .int m_h_length, .int m_h_kind, .int w, .int m_h_number, .int m_h_behind])), (q_h_bytes, aB cy 200 m_h_bytes)]) (hS : va_S A s.heap H locs) (hl : lv_has ls 1 [(0, .ref h)]) (hE0 : ∀ (H : Heap) (locs : List Loc) (ls : Array Slot), z.1 = 0 → va_P D vwCl [(h, .inr (9, [.ref q_h_bytes, .int m_h_length, .int m_h_kind, .int z.2, .int m_h_number, .int m_h_behind])), (q_h_bytes, aB cy 200 m_h_bytes)] H → va_D A [(h, .inr (9, [.ref q_h_bytes, .int m_h_length, .int m_h_kind, .int z.2, .int m_h_number, .int m_h_behind])), (q_h_bytes, aB cy 200 m_h_bytes)] → va_S A s.heap H locs → lv_has ls 1 [(0, .ref h)] → W p l e ({ frames := 1, cells := 0, slots := 0, locals := 22 } : Room) s m args below meth c H locs 0 0 Q (F0 m 8 ls [])) (hE1 : ∀ (H : Heap) (locs : List Loc) (ls : Array Slot), z.1 = 1 → va_P D vwCl [(h, .inr (9, [.ref q_h_bytes, .int m_h_length, .int m_h_kind, .int z.2, .int m_h_number, .int m_h_behind])), (q_h_bytes, aB cy 200 m_h_bytes)] H → va_D A [(h, .inr (9, [.ref q_h_bytes, .int m_h_length, .int m_h_kind, .int z.2, .int m_h_number, .int m_h_behind])), (q_h_bytes, aB cy 200 m_h_bytes)] → va_S A s.heap H locs → lv_has ls 1 [(0, .ref h)] → W p l e ({ frames := 1, cells := 0, slots := 0, locals := 22 } : Room) s m args below meth c H locs 0 0 Q (F0 m 45 ls [])) : W p l e ({ frames := 1, cells := 0, slots := 0, locals := 22 } : Room) s m args below meth c H locs 0 0 Q (F0 m 8 ls []) := by
  obtain ⟨hx, hb, hr, hml, hown, hts, hlk, hK, hA, hN⟩ := id C
  unfold f_X9_advance_L8 at hf
  refine lv_aload_n hx hb dX9_advance_8 rfl (lv_at hl 0 rfl) ?_
  refine va_get (D := D) (ci := 9) (v := .int w) (C := RX9) (T := TX9) (N := 6) hx hb hts ui_X9 hown hK hP 0 rfl rfl 3 (by decide) (hts _ fl_X9_20) (fun _ h9 => h9) rfl dX9_advance_9 ?_
  refine lv_aload_n hx hb dX9_advance_12 rfl (lv_at hl 0 rfl) ?_
  refine va_get (D := D) (ci := 9) (v := .int m_h_length) (C := RX9) (T := TX9) (N := 6) hx hb hts ui_X9 hown hK hP 0 rfl rfl 1 (by decide) (hts _ fl_X9_13) (fun _ h9 => h9) rfl dX9_advance_13 ?_
  refine lv_icmp_ge (tgt := 45) hx hb dX9_advance_16 (by decide) (fun c16 => ?_) (fun c16 => ?_)
  · have hf := zt c16 hf
    obtain rfl := Option.some.inj hf
    exact hE1 _ _ _ rfl hP hD hS (lv_sub hl [0] rfl)
  · have hf := zf c16 hf
    refine lv_aload_n hx hb dX9_advance_19 rfl (lv_at hl 0 rfl) ?_
    refine lv_aload_n hx hb dX9_advance_20 rfl (lv_at hl 0 rfl) ?_
    refine va_get (D := D) (ci := 9) (v := .int w) (C := RX9) (T := TX9) (N := 6) hx hb hts ui_X9 hown hK hP 0 rfl rfl 3 (by decide) (hts _ fl_X9_20) (fun _ h9 => h9) rfl dX9_advance_21 ?_
    obtain ⟨z24, hz24, hf⟩ := zb_of hf
    refine goI (wr := []) (ws' := [(h, .inr (9, [.ref q_h_bytes, .int m_h_length, .int m_h_kind, .int w, .int m_h_number, .int m_h_behind])), (q_h_bytes, aB cy 200 m_h_bytes)]) C (runV (n := 1) (As := [.int w]) (rest := []) C (c_X9_kindAt l D cy H.size h q_h_bytes w m_h_length m_h_kind w m_h_number m_h_behind m_h_bytes hz24) ml_X9_29 im_X9_kindAt se_X9_kindAt ii_X9 cd_X9_kindAt hd_X9_kindAt rfl rfl ⟨Nat.le_of_ble_eq_true rfl, Nat.le_of_ble_eq_true rfl⟩ (hP.sub [0, 1] rfl) (hD.sub [0, 1] (by decide) rfl) hS rfl rfl rfl hl.1 rfl (Nat.le_of_ble_eq_true rfl) dX9_advance_24) hP hD hS [0, 1] [] [0, 1] rfl rfl (by decide) (by decide) rfl (by decide) (fun H locs hP hD hS => ?_)
    refine lv_bipush (v := 6) hx hb dX9_advance_27 (by decide) ?_
    refine lv_icmp_ne (tgt := 45) hx hb dX9_advance_29 (by decide) (fun c29 => ?_) (fun c29 => ?_)
    · have hf := zf c29 hf
      obtain rfl := Option.some.inj hf
      exact hE1 _ _ _ rfl hP hD hS (lv_sub hl [0] rfl)
    · have hf := zt c29 hf
      refine lv_aload_n hx hb dX9_advance_32 rfl (lv_at hl 0 rfl) ?_
      refine lv_dup hx hb dX9_advance_33 rfl ?_
      refine va_get (D := D) (ci := 9) (v := .int w) (C := RX9) (T := TX9) (N := 6) hx hb hts ui_X9 hown hK hP 0 rfl rfl 3 (by decide) (hts _ fl_X9_20) (fun _ h9 => h9) rfl dX9_advance_34 ?_
      refine lv_iconst (v := 1) hx hb dX9_advance_37 (by decide) ?_
      refine lv_iadd hx hb dX9_advance_38 ?_
      refine lv_topi (fun x39 ex39 => ?_)
      have hf := zl_of hf x39 ex39
      refine va_put (D := D) (ci := 9) (v := .int x39) (ty := .int) (C := RX9) (T := TX9) (N := 6) hx hb hts ui_X9 tyX9 tyX9_ok nmX9 hown hK hP hD hS 0 rfl rfl 3 (by decide) (hts _ fl_X9_20) (fun _ h9 => h9) rfl rfl rfl rfl (Nat.le_of_ble_eq_true rfl) dX9_advance_39 (fun H locs hP hD hS => ?_)
      have hP : va_P D vwCl [(h, .inr (9, [.ref q_h_bytes, .int m_h_length, .int m_h_kind, .int x39, .int m_h_number, .int m_h_behind])), (q_h_bytes, aB cy 200 m_h_bytes)] H := hP
      have hD : va_D A [(h, .inr (9, [.ref q_h_bytes, .int m_h_length, .int m_h_kind, .int x39, .int m_h_number, .int m_h_behind])), (q_h_bytes, aB cy 200 m_h_bytes)] := hD
      refine lv_goto (tgt := 8) hx hb dX9_advance_42 (by decide) ?_
      obtain rfl := Option.some.inj hf
      exact hE0 _ _ _ rfl hP hD hS (lv_sub hl [0] rfl)
set_option maxHeartbeats 4000000 in
set_option maxRecDepth 100000 in
theorem kl_X9_advance_L8 {h q_h_bytes : Nat} {m_h_length : Int32} {m_h_kind : Int32} {m_h_number : Int32} {m_h_behind : Int32} {m_h_bytes : Nat → Int32} (C : cx p s m args meth c cX9_advance 1 none RX9 D cy A) : ∀ (n : Nat) (w : Int32) (z : Nat × (Int32)) (H : Heap) (locs : List Loc) (ls : Array Slot), zp (f_X9_advance_L8 m_h_length m_h_bytes) n w = some z → va_P D vwCl [(h, .inr (9, [.ref q_h_bytes, .int m_h_length, .int m_h_kind, .int w, .int m_h_number, .int m_h_behind])), (q_h_bytes, aB cy 200 m_h_bytes)] H → va_D A [(h, .inr (9, [.ref q_h_bytes, .int m_h_length, .int m_h_kind, .int w, .int m_h_number, .int m_h_behind])), (q_h_bytes, aB cy 200 m_h_bytes)] → va_S A s.heap H locs → lv_has ls 1 [(0, .ref h)] → (∀ (H : Heap) (locs : List Loc) (ls : Array Slot), z.1 = 1 → va_P D vwCl [(h, .inr (9, [.ref q_h_bytes, .int m_h_length, .int m_h_kind, .int z.2, .int m_h_number, .int m_h_behind])), (q_h_bytes, aB cy 200 m_h_bytes)] H → va_D A [(h, .inr (9, [.ref q_h_bytes, .int m_h_length, .int m_h_kind, .int z.2, .int m_h_number, .int m_h_behind])), (q_h_bytes, aB cy 200 m_h_bytes)] → va_S A s.heap H locs → lv_has ls 1 [(0, .ref h)] → W p l e ({ frames := 1, cells := 0, slots := 0, locals := 22 } : Room) s m args below meth c H locs 0 0 Q (F0 m 45 ls [])) → W p l e ({ frames := 1, cells := 0, slots := 0, locals := 22 } : Room) s m args below meth c H locs 0 0 Q (F0 m 8 ls []) := by
  intro n
  induction n with
  | zero => intro w z H locs ls hf; cases hf
  | succ n ih =>
    intro w z H locs ls hf hP hD hS hl hE1
    obtain ⟨w1, hw, hd⟩ := zp_s hf
    refine k_X9_advance_L8 C hw hP hD hS hl (fun H locs ls h0 hP hD hS hl => ?_) (fun H locs ls h0 hP hD hS hl => ?_)
    · rcases hd with ⟨_, h⟩ | ⟨h, _⟩
      · exact ih _ _ _ _ _ h hP hD hS hl hE1
      · exact absurd h0 h
    · rcases hd with ⟨h, _⟩ | ⟨_, h⟩
      · exact absurd (h.symm.trans h0) (by decide)
      · subst h; exact hE1 _ _ _ h0 hP hD hS hl
def f_X9_advance_L90 (m_h_length : Int32) (m_h_kind : Int32) (m_h_bytes : Nat → Int32) (w : Int32) : Option (Nat × (Int32)) :=
  if m_h_length ≤ w then
    some (1, w)
  else
    zb (f_X9_kindAt w m_h_length m_h_bytes) fun z106 =>
    if z106 = m_h_kind then
      zl (w + (1 : Int32)) fun x123 =>
      some (0, x123)
    else
      some (1, w)
set_option maxHeartbeats 4000000 in
set_option maxRecDepth 100000 in
theorem k_X9_advance_L90 {h q_h_bytes : Nat} {m_h_length : Int32} {m_h_kind : Int32} {m_h_place : Int32} {m_h_number : Int32} {m_h_bytes : Nat → Int32} {w : Int32} {z : Nat × (Int32)} (C : cx p s m args meth c cX9_advance 1 none RX9 D cy A) (hf : f_X9_advance_L90 m_h_length m_h_kind m_h_bytes w = some z) (hP : va_P D vwCl [(h, .inr (9, [.ref q_h_bytes, .int m_h_length, .int m_h_kind, .int m_h_place, .int m_h_number, .int w])), (q_h_bytes, aB cy 200 m_h_bytes)] H) (hD : va_D A [(h, .inr (9, [.ref q_h_bytes, .int m_h_length, .int m_h_kind, .int m_h_place, .int m_h_number, .int w])), (q_h_bytes, aB cy 200 m_h_bytes)]) (hS : va_S A s.heap H locs) (hl : lv_has ls 1 [(0, .ref h)]) (hE0 : ∀ (H : Heap) (locs : List Loc) (ls : Array Slot), z.1 = 0 → va_P D vwCl [(h, .inr (9, [.ref q_h_bytes, .int m_h_length, .int m_h_kind, .int m_h_place, .int m_h_number, .int z.2])), (q_h_bytes, aB cy 200 m_h_bytes)] H → va_D A [(h, .inr (9, [.ref q_h_bytes, .int m_h_length, .int m_h_kind, .int m_h_place, .int m_h_number, .int z.2])), (q_h_bytes, aB cy 200 m_h_bytes)] → va_S A s.heap H locs → lv_has ls 1 [(0, .ref h)] → W p l e ({ frames := 1, cells := 0, slots := 0, locals := 22 } : Room) s m args below meth c H locs 0 0 Q (F0 m 90 ls [])) (hE1 : ∀ (H : Heap) (locs : List Loc) (ls : Array Slot), z.1 = 1 → va_P D vwCl [(h, .inr (9, [.ref q_h_bytes, .int m_h_length, .int m_h_kind, .int m_h_place, .int m_h_number, .int z.2])), (q_h_bytes, aB cy 200 m_h_bytes)] H → va_D A [(h, .inr (9, [.ref q_h_bytes, .int m_h_length, .int m_h_kind, .int m_h_place, .int m_h_number, .int z.2])), (q_h_bytes, aB cy 200 m_h_bytes)] → va_S A s.heap H locs → lv_has ls 1 [(0, .ref h)] → W p l e ({ frames := 1, cells := 0, slots := 0, locals := 22 } : Room) s m args below meth c H locs 0 0 Q (F0 m 129 ls [])) : W p l e ({ frames := 1, cells := 0, slots := 0, locals := 22 } : Room) s m args below meth c H locs 0 0 Q (F0 m 90 ls []) := by
  obtain ⟨hx, hb, hr, hml, hown, hts, hlk, hK, hA, hN⟩ := id C
  unfold f_X9_advance_L90 at hf
  refine lv_aload_n hx hb dX9_advance_90 rfl (lv_at hl 0 rfl) ?_
  refine va_get (D := D) (ci := 9) (v := .int w) (C := RX9) (T := TX9) (N := 6) hx hb hts ui_X9 hown hK hP 0 rfl rfl 5 (by decide) (hts _ fl_X9_26) (fun _ h9 => h9) rfl dX9_advance_91 ?_
  refine lv_aload_n hx hb dX9_advance_94 rfl (lv_at hl 0 rfl) ?_
  refine va_get (D := D) (ci := 9) (v := .int m_h_length) (C := RX9) (T := TX9) (N := 6) hx hb hts ui_X9 hown hK hP 0 rfl rfl 1 (by decide) (hts _ fl_X9_13) (fun _ h9 => h9) rfl dX9_advance_95 ?_
  refine lv_icmp_ge (tgt := 129) hx hb dX9_advance_98 (by decide) (fun c98 => ?_) (fun c98 => ?_)
  · have hf := zt c98 hf
    obtain rfl := Option.some.inj hf
    exact hE1 _ _ _ rfl hP hD hS (lv_sub hl [0] rfl)
  · have hf := zf c98 hf
    refine lv_aload_n hx hb dX9_advance_101 rfl (lv_at hl 0 rfl) ?_
    refine lv_aload_n hx hb dX9_advance_102 rfl (lv_at hl 0 rfl) ?_
    refine va_get (D := D) (ci := 9) (v := .int w) (C := RX9) (T := TX9) (N := 6) hx hb hts ui_X9 hown hK hP 0 rfl rfl 5 (by decide) (hts _ fl_X9_26) (fun _ h9 => h9) rfl dX9_advance_103 ?_
    obtain ⟨z106, hz106, hf⟩ := zb_of hf
    refine goI (wr := []) (ws' := [(h, .inr (9, [.ref q_h_bytes, .int m_h_length, .int m_h_kind, .int m_h_place, .int m_h_number, .int w])), (q_h_bytes, aB cy 200 m_h_bytes)]) C (runV (n := 1) (As := [.int w]) (rest := []) C (c_X9_kindAt l D cy H.size h q_h_bytes w m_h_length m_h_kind m_h_place m_h_number w m_h_bytes hz106) ml_X9_29 im_X9_kindAt se_X9_kindAt ii_X9 cd_X9_kindAt hd_X9_kindAt rfl rfl ⟨Nat.le_of_ble_eq_true rfl, Nat.le_of_ble_eq_true rfl⟩ (hP.sub [0, 1] rfl) (hD.sub [0, 1] (by decide) rfl) hS rfl rfl rfl hl.1 rfl (Nat.le_of_ble_eq_true rfl) dX9_advance_106) hP hD hS [0, 1] [] [0, 1] rfl rfl (by decide) (by decide) rfl (by decide) (fun H locs hP hD hS => ?_)
    refine lv_aload_n hx hb dX9_advance_109 rfl (lv_at hl 0 rfl) ?_
    refine va_get (D := D) (ci := 9) (v := .int m_h_kind) (C := RX9) (T := TX9) (N := 6) hx hb hts ui_X9 hown hK hP 0 rfl rfl 2 (by decide) (hts _ fl_X9_17) (fun _ h9 => h9) rfl dX9_advance_110 ?_
    refine lv_icmp_ne (tgt := 129) hx hb dX9_advance_113 (by decide) (fun c113 => ?_) (fun c113 => ?_)
    · have hf := zf c113 hf
      obtain rfl := Option.some.inj hf
      exact hE1 _ _ _ rfl hP hD hS (lv_sub hl [0] rfl)
    · have hf := zt c113 hf
      refine lv_aload_n hx hb dX9_advance_116 rfl (lv_at hl 0 rfl) ?_
      refine lv_dup hx hb dX9_advance_117 rfl ?_
      refine va_get (D := D) (ci := 9) (v := .int w) (C := RX9) (T := TX9) (N := 6) hx hb hts ui_X9 hown hK hP 0 rfl rfl 5 (by decide) (hts _ fl_X9_26) (fun _ h9 => h9) rfl dX9_advance_118 ?_
      refine lv_iconst (v := 1) hx hb dX9_advance_121 (by decide) ?_
      refine lv_iadd hx hb dX9_advance_122 ?_
      refine lv_topi (fun x123 ex123 => ?_)
      have hf := zl_of hf x123 ex123
      refine va_put (D := D) (ci := 9) (v := .int x123) (ty := .int) (C := RX9) (T := TX9) (N := 6) hx hb hts ui_X9 tyX9 tyX9_ok nmX9 hown hK hP hD hS 0 rfl rfl 5 (by decide) (hts _ fl_X9_26) (fun _ h9 => h9) rfl rfl rfl rfl (Nat.le_of_ble_eq_true rfl) dX9_advance_123 (fun H locs hP hD hS => ?_)
      have hP : va_P D vwCl [(h, .inr (9, [.ref q_h_bytes, .int m_h_length, .int m_h_kind, .int m_h_place, .int m_h_number, .int x123])), (q_h_bytes, aB cy 200 m_h_bytes)] H := hP
      have hD : va_D A [(h, .inr (9, [.ref q_h_bytes, .int m_h_length, .int m_h_kind, .int m_h_place, .int m_h_number, .int x123])), (q_h_bytes, aB cy 200 m_h_bytes)] := hD
      refine lv_goto (tgt := 90) hx hb dX9_advance_126 (by decide) ?_
      obtain rfl := Option.some.inj hf
      exact hE0 _ _ _ rfl hP hD hS (lv_sub hl [0] rfl)
set_option maxHeartbeats 4000000 in
set_option maxRecDepth 100000 in
theorem kl_X9_advance_L90 {h q_h_bytes : Nat} {m_h_length : Int32} {m_h_kind : Int32} {m_h_place : Int32} {m_h_number : Int32} {m_h_bytes : Nat → Int32} (C : cx p s m args meth c cX9_advance 1 none RX9 D cy A) : ∀ (n : Nat) (w : Int32) (z : Nat × (Int32)) (H : Heap) (locs : List Loc) (ls : Array Slot), zp (f_X9_advance_L90 m_h_length m_h_kind m_h_bytes) n w = some z → va_P D vwCl [(h, .inr (9, [.ref q_h_bytes, .int m_h_length, .int m_h_kind, .int m_h_place, .int m_h_number, .int w])), (q_h_bytes, aB cy 200 m_h_bytes)] H → va_D A [(h, .inr (9, [.ref q_h_bytes, .int m_h_length, .int m_h_kind, .int m_h_place, .int m_h_number, .int w])), (q_h_bytes, aB cy 200 m_h_bytes)] → va_S A s.heap H locs → lv_has ls 1 [(0, .ref h)] → (∀ (H : Heap) (locs : List Loc) (ls : Array Slot), z.1 = 1 → va_P D vwCl [(h, .inr (9, [.ref q_h_bytes, .int m_h_length, .int m_h_kind, .int m_h_place, .int m_h_number, .int z.2])), (q_h_bytes, aB cy 200 m_h_bytes)] H → va_D A [(h, .inr (9, [.ref q_h_bytes, .int m_h_length, .int m_h_kind, .int m_h_place, .int m_h_number, .int z.2])), (q_h_bytes, aB cy 200 m_h_bytes)] → va_S A s.heap H locs → lv_has ls 1 [(0, .ref h)] → W p l e ({ frames := 1, cells := 0, slots := 0, locals := 22 } : Room) s m args below meth c H locs 0 0 Q (F0 m 129 ls [])) → W p l e ({ frames := 1, cells := 0, slots := 0, locals := 22 } : Room) s m args below meth c H locs 0 0 Q (F0 m 90 ls []) := by
  intro n
  induction n with
  | zero => intro w z H locs ls hf; cases hf
  | succ n ih =>
    intro w z H locs ls hf hP hD hS hl hE1
    obtain ⟨w1, hw, hd⟩ := zp_s hf
    refine k_X9_advance_L90 C hw hP hD hS hl (fun H locs ls h0 hP hD hS hl => ?_) (fun H locs ls h0 hP hD hS hl => ?_)
    · rcases hd with ⟨_, h⟩ | ⟨h, _⟩
      · exact ih _ _ _ _ _ h hP hD hS hl hE1
      · exact absurd h0 h
    · rcases hd with ⟨h, _⟩ | ⟨_, h⟩
      · exact absurd (h.symm.trans h0) (by decide)
      · subst h; exact hE1 _ _ _ h0 hP hD hS hl
def f_X9_advance_J129 (m_h_kind : Int32) (m_h_place : Int32) (m_h_number : Int32) (m_h_behind : Int32) (m_h_bytes : Nat → Int32) : Option (Int32 × Int32 × Int32 × Int32) :=
  if m_h_kind = (2 : Int32) then
    zb (f_X9_readFigures m_h_kind m_h_place m_h_number m_h_behind m_h_bytes) fun z138 =>
    some (z138.1, m_h_place, z138.2, m_h_behind)
  else
    some (m_h_kind, m_h_place, m_h_number, m_h_behind)
set_option maxHeartbeats 4000000 in
set_option maxRecDepth 100000 in
theorem k_X9_advance_J129 {h q_h_bytes : Nat} {m_h_length : Int32} {m_h_kind : Int32} {m_h_place : Int32} {m_h_number : Int32} {m_h_behind : Int32} {m_h_bytes : Nat → Int32} {z : Int32 × Int32 × Int32 × Int32} (C : cx p s m args meth c cX9_advance 1 none RX9 D cy A) (hf : f_X9_advance_J129 m_h_kind m_h_place m_h_number m_h_behind m_h_bytes = some z) (hP : va_P D vwCl [(h, .inr (9, [.ref q_h_bytes, .int m_h_length, .int m_h_kind, .int m_h_place, .int m_h_number, .int m_h_behind])), (q_h_bytes, aB cy 200 m_h_bytes)] H) (hD : va_D A [(h, .inr (9, [.ref q_h_bytes, .int m_h_length, .int m_h_kind, .int m_h_place, .int m_h_number, .int m_h_behind])), (q_h_bytes, aB cy 200 m_h_bytes)]) (hS : va_S A s.heap H locs) (hl : lv_has ls 1 [(0, .ref h)]) : W p l e ({ frames := 1, cells := 0, slots := 0, locals := 22 } : Room) s m args below meth c H locs 0 0 (MQ below (kqv D cy [(h, .inr (9, [.ref q_h_bytes, .int m_h_length, .int z.1, .int z.2.1, .int z.2.2.1, .int z.2.2.2])), (q_h_bytes, aB cy 200 m_h_bytes)] A) args s 0 0 A) (F0 m 129 ls []) := by
  obtain ⟨hx, hb, hr, hml, hown, hts, hlk, hK, hA, hN⟩ := id C
  unfold f_X9_advance_J129 at hf
  refine lv_aload_n hx hb dX9_advance_129 rfl (lv_at hl 0 rfl) ?_
  refine va_get (D := D) (ci := 9) (v := .int m_h_kind) (C := RX9) (T := TX9) (N := 6) hx hb hts ui_X9 hown hK hP 0 rfl rfl 2 (by decide) (hts _ fl_X9_17) (fun _ h9 => h9) rfl dX9_advance_130 ?_
  refine lv_iconst (v := 2) hx hb dX9_advance_133 (by decide) ?_
  refine lv_icmp_ne (tgt := 141) hx hb dX9_advance_134 (by decide) (fun c134 => ?_) (fun c134 => ?_)
  · have hf := zf c134 hf
    obtain rfl := Option.some.inj hf
    exact ret_v C hP hD hS dX9_advance_141
  · have hf := zt c134 hf
    refine lv_aload_n hx hb dX9_advance_137 rfl (lv_at hl 0 rfl) ?_
    obtain ⟨z138, hz138, hf⟩ := zb_of hf
    refine goV (wr := []) (ws' := [(h, .inr (9, [.ref q_h_bytes, .int m_h_length, .int z138.1, .int m_h_place, .int z138.2, .int m_h_behind])), (q_h_bytes, aB cy 200 m_h_bytes)]) C (runV (n := 0) (As := []) (rest := []) C (c_X9_readFigures l D cy H.size h q_h_bytes m_h_length m_h_kind m_h_place m_h_number m_h_behind m_h_bytes hz138) ml_X9_39 im_X9_readFigures se_X9_readFigures ii_X9 cd_X9_readFigures hd_X9_readFigures rfl rfl ⟨Nat.le_of_ble_eq_true rfl, Nat.le_of_ble_eq_true rfl⟩ (hP.sub [0, 1] rfl) (hD.sub [0, 1] (by decide) rfl) hS rfl rfl rfl hl.1 rfl (Nat.le_of_ble_eq_true rfl) dX9_advance_138) hP hD hS [0, 1] [] [0, 1] rfl rfl (by decide) (by decide) rfl (by decide) (fun H locs hP hD hS => ?_)
    obtain rfl := Option.some.inj hf
    exact ret_v C hP hD hS dX9_advance_141
def f_X9_advance_J45 (m_h_length : Int32) (m_h_place : Int32) (m_h_number : Int32) (m_h_bytes : Nat → Int32) : Option (Int32 × Int32 × Int32 × Int32) :=
  zb (f_X9_kindAt m_h_place m_h_length m_h_bytes) fun z51 =>
  zb (f_J9_min_7cf53 (m_h_place + (1 : Int32)) m_h_length) fun z68 =>
  if z51 = (1 : Int32) then
    zb (zp (f_X9_advance_L90 m_h_length z51 m_h_bytes) zF z68) fun z90 =>
    f_X9_advance_J129 z51 m_h_place m_h_number z90.2 m_h_bytes
  else
    if z51 = (2 : Int32) then
      zb (zp (f_X9_advance_L90 m_h_length z51 m_h_bytes) zF z68) fun z90 =>
      f_X9_advance_J129 z51 m_h_place m_h_number z90.2 m_h_bytes
    else
      f_X9_advance_J129 z51 m_h_place m_h_number z68 m_h_bytes
set_option maxHeartbeats 4000000 in
set_option maxRecDepth 100000 in
theorem k_X9_advance_J45 {h q_h_bytes : Nat} {m_h_length : Int32} {m_h_kind : Int32} {m_h_place : Int32} {m_h_number : Int32} {m_h_behind : Int32} {m_h_bytes : Nat → Int32} {z : Int32 × Int32 × Int32 × Int32} (C : cx p s m args meth c cX9_advance 1 none RX9 D cy A) (hf : f_X9_advance_J45 m_h_length m_h_place m_h_number m_h_bytes = some z) (hP : va_P D vwCl [(h, .inr (9, [.ref q_h_bytes, .int m_h_length, .int m_h_kind, .int m_h_place, .int m_h_number, .int m_h_behind])), (q_h_bytes, aB cy 200 m_h_bytes)] H) (hD : va_D A [(h, .inr (9, [.ref q_h_bytes, .int m_h_length, .int m_h_kind, .int m_h_place, .int m_h_number, .int m_h_behind])), (q_h_bytes, aB cy 200 m_h_bytes)]) (hS : va_S A s.heap H locs) (hl : lv_has ls 1 [(0, .ref h)]) : W p l e ({ frames := 1, cells := 0, slots := 0, locals := 22 } : Room) s m args below meth c H locs 0 0 (MQ below (kqv D cy [(h, .inr (9, [.ref q_h_bytes, .int m_h_length, .int z.1, .int z.2.1, .int z.2.2.1, .int z.2.2.2])), (q_h_bytes, aB cy 200 m_h_bytes)] A) args s 0 0 A) (F0 m 45 ls []) := by
  obtain ⟨hx, hb, hr, hml, hown, hts, hlk, hK, hA, hN⟩ := id C
  unfold f_X9_advance_J45 at hf
  refine lv_aload_n hx hb dX9_advance_45 rfl (lv_at hl 0 rfl) ?_
  refine lv_aload_n hx hb dX9_advance_46 rfl (lv_at hl 0 rfl) ?_
  refine lv_aload_n hx hb dX9_advance_47 rfl (lv_at hl 0 rfl) ?_
  refine va_get (D := D) (ci := 9) (v := .int m_h_place) (C := RX9) (T := TX9) (N := 6) hx hb hts ui_X9 hown hK hP 0 rfl rfl 3 (by decide) (hts _ fl_X9_20) (fun _ h9 => h9) rfl dX9_advance_48 ?_
  obtain ⟨z51, hz51, hf⟩ := zb_of hf
  refine goI (wr := []) (ws' := [(h, .inr (9, [.ref q_h_bytes, .int m_h_length, .int m_h_kind, .int m_h_place, .int m_h_number, .int m_h_behind])), (q_h_bytes, aB cy 200 m_h_bytes)]) C (runV (n := 1) (As := [.int m_h_place]) (rest := [.ref h]) C (c_X9_kindAt l D cy H.size h q_h_bytes m_h_place m_h_length m_h_kind m_h_place m_h_number m_h_behind m_h_bytes hz51) ml_X9_29 im_X9_kindAt se_X9_kindAt ii_X9 cd_X9_kindAt hd_X9_kindAt rfl rfl ⟨Nat.le_of_ble_eq_true rfl, Nat.le_of_ble_eq_true rfl⟩ (hP.sub [0, 1] rfl) (hD.sub [0, 1] (by decide) rfl) hS rfl rfl rfl hl.1 rfl (Nat.le_of_ble_eq_true rfl) dX9_advance_51) hP hD hS [0, 1] [] [0, 1] rfl rfl (by decide) (by decide) rfl (by decide) (fun H locs hP hD hS => ?_)
  refine va_put (D := D) (ci := 9) (v := .int z51) (ty := .int) (C := RX9) (T := TX9) (N := 6) hx hb hts ui_X9 tyX9 tyX9_ok nmX9 hown hK hP hD hS 0 rfl rfl 2 (by decide) (hts _ fl_X9_17) (fun _ h9 => h9) rfl rfl rfl rfl (Nat.le_of_ble_eq_true rfl) dX9_advance_54 (fun H locs hP hD hS => ?_)
  have hP : va_P D vwCl [(h, .inr (9, [.ref q_h_bytes, .int m_h_length, .int z51, .int m_h_place, .int m_h_number, .int m_h_behind])), (q_h_bytes, aB cy 200 m_h_bytes)] H := hP
  have hD : va_D A [(h, .inr (9, [.ref q_h_bytes, .int m_h_length, .int z51, .int m_h_place, .int m_h_number, .int m_h_behind])), (q_h_bytes, aB cy 200 m_h_bytes)] := hD
  refine lv_aload_n hx hb dX9_advance_57 rfl (lv_at hl 0 rfl) ?_
  refine lv_aload_n hx hb dX9_advance_58 rfl (lv_at hl 0 rfl) ?_
  refine va_get (D := D) (ci := 9) (v := .int m_h_place) (C := RX9) (T := TX9) (N := 6) hx hb hts ui_X9 hown hK hP 0 rfl rfl 3 (by decide) (hts _ fl_X9_20) (fun _ h9 => h9) rfl dX9_advance_59 ?_
  refine lv_iconst (v := 1) hx hb dX9_advance_62 (by decide) ?_
  refine lv_iadd hx hb dX9_advance_63 ?_
  refine lv_aload_n hx hb dX9_advance_64 rfl (lv_at hl 0 rfl) ?_
  refine va_get (D := D) (ci := 9) (v := .int m_h_length) (C := RX9) (T := TX9) (N := 6) hx hb hts ui_X9 hown hK hP 0 rfl rfl 1 (by decide) (hts _ fl_X9_13) (fun _ h9 => h9) rfl dX9_advance_65 ?_
  obtain ⟨z68, hz68, hf⟩ := zb_of hf
  refine goI (wr := [(h, .inr (9, [.ref q_h_bytes, .int m_h_length, .int z51, .int m_h_place, .int m_h_number, .int m_h_behind])), (q_h_bytes, aB cy 200 m_h_bytes)]) (ws' := [(h, .inr (9, [.ref q_h_bytes, .int m_h_length, .int z51, .int m_h_place, .int m_h_number, .int m_h_behind])), (q_h_bytes, aB cy 200 m_h_bytes)]) C (runS (n := 2) (As := [.int (m_h_place + (1 : Int32)), .int m_h_length]) (rest := [.ref h]) C (c_J9_min_7cf53 l D cy H.size (m_h_place + (1 : Int32)) m_h_length hz68) ml_X9_33 st_J9_min_7cf53 ii_J9 cd_J9_min_7cf53 hd_J9_min_7cf53 rfl rfl ⟨Nat.le_of_ble_eq_true rfl, Nat.le_of_ble_eq_true rfl⟩ (hP.sub [] rfl) (hD.sub [] (by decide) rfl) hS rfl hl.1 rfl (Nat.le_of_ble_eq_true rfl) dX9_advance_68) hP hD hS [] [0, 1] [0, 1] rfl rfl (by decide) (by decide) rfl (by decide) (fun H locs hP hD hS => ?_)
  refine va_put (D := D) (ci := 9) (v := .int z68) (ty := .int) (C := RX9) (T := TX9) (N := 6) hx hb hts ui_X9 tyX9 tyX9_ok nmX9 hown hK hP hD hS 0 rfl rfl 5 (by decide) (hts _ fl_X9_26) (fun _ h9 => h9) rfl rfl rfl rfl (Nat.le_of_ble_eq_true rfl) dX9_advance_71 (fun H locs hP hD hS => ?_)
  have hP : va_P D vwCl [(h, .inr (9, [.ref q_h_bytes, .int m_h_length, .int z51, .int m_h_place, .int m_h_number, .int z68])), (q_h_bytes, aB cy 200 m_h_bytes)] H := hP
  have hD : va_D A [(h, .inr (9, [.ref q_h_bytes, .int m_h_length, .int z51, .int m_h_place, .int m_h_number, .int z68])), (q_h_bytes, aB cy 200 m_h_bytes)] := hD
  refine lv_aload_n hx hb dX9_advance_74 rfl (lv_at hl 0 rfl) ?_
  refine va_get (D := D) (ci := 9) (v := .int z51) (C := RX9) (T := TX9) (N := 6) hx hb hts ui_X9 hown hK hP 0 rfl rfl 2 (by decide) (hts _ fl_X9_17) (fun _ h9 => h9) rfl dX9_advance_75 ?_
  refine lv_iconst (v := 1) hx hb dX9_advance_78 (by decide) ?_
  refine lv_icmp_eq (tgt := 90) hx hb dX9_advance_79 (by decide) (fun c79 => ?_) (fun c79 => ?_)
  · have hf := zt c79 hf
    obtain ⟨z90, hz90, hf⟩ := zb_of hf
    refine kl_X9_advance_L90 C _ _ _ _ _ _ hz90 hP hD hS (lv_sub hl [0] rfl) (fun H locs ls h0 hP hD hS hl => ?_)
    exact k_X9_advance_J129 C hf hP hD hS (lv_sub hl [0] rfl)
  · have hf := zf c79 hf
    refine lv_aload_n hx hb dX9_advance_82 rfl (lv_at hl 0 rfl) ?_
    refine va_get (D := D) (ci := 9) (v := .int z51) (C := RX9) (T := TX9) (N := 6) hx hb hts ui_X9 hown hK hP 0 rfl rfl 2 (by decide) (hts _ fl_X9_17) (fun _ h9 => h9) rfl dX9_advance_83 ?_
    refine lv_iconst (v := 2) hx hb dX9_advance_86 (by decide) ?_
    refine lv_icmp_ne (tgt := 129) hx hb dX9_advance_87 (by decide) (fun c87 => ?_) (fun c87 => ?_)
    · have hf := zf c87 hf
      exact k_X9_advance_J129 C hf hP hD hS (lv_sub hl [0] rfl)
    · have hf := zt c87 hf
      obtain ⟨z90, hz90, hf⟩ := zb_of hf
      refine kl_X9_advance_L90 C _ _ _ _ _ _ hz90 hP hD hS (lv_sub hl [0] rfl) (fun H locs ls h0 hP hD hS hl => ?_)
      exact k_X9_advance_J129 C hf hP hD hS (lv_sub hl [0] rfl)
def f_X9_advance (m_h_length : Int32) (m_h_number : Int32) (m_h_behind : Int32) (m_h_bytes : Nat → Int32) : Option (Int32 × Int32 × Int32 × Int32) :=
  zb (zp (f_X9_advance_L8 m_h_length m_h_bytes) zF m_h_behind) fun z8 =>
  f_X9_advance_J45 m_h_length z8.2 m_h_number m_h_bytes
set_option maxHeartbeats 4000000 in
set_option maxRecDepth 100000 in
theorem k_X9_advance {h q_h_bytes : Nat} {m_h_length : Int32} {m_h_kind : Int32} {m_h_place : Int32} {m_h_number : Int32} {m_h_behind : Int32} {m_h_bytes : Nat → Int32} {z : Int32 × Int32 × Int32 × Int32} (C : cx p s m args meth c cX9_advance 1 none RX9 D cy A) (hf : f_X9_advance m_h_length m_h_number m_h_behind m_h_bytes = some z) (hP : va_P D vwCl [(h, .inr (9, [.ref q_h_bytes, .int m_h_length, .int m_h_kind, .int m_h_place, .int m_h_number, .int m_h_behind])), (q_h_bytes, aB cy 200 m_h_bytes)] H) (hD : va_D A [(h, .inr (9, [.ref q_h_bytes, .int m_h_length, .int m_h_kind, .int m_h_place, .int m_h_number, .int m_h_behind])), (q_h_bytes, aB cy 200 m_h_bytes)]) (hS : va_S A s.heap H locs) (hl : lv_has ls 1 [(0, .ref h)]) : W p l e ({ frames := 1, cells := 0, slots := 0, locals := 22 } : Room) s m args below meth c H locs 0 0 (MQ below (kqv D cy [(h, .inr (9, [.ref q_h_bytes, .int m_h_length, .int z.1, .int z.2.1, .int z.2.2.1, .int z.2.2.2])), (q_h_bytes, aB cy 200 m_h_bytes)] A) args s 0 0 A) (F0 m 0 ls []) := by
  obtain ⟨hx, hb, hr, hml, hown, hts, hlk, hK, hA, hN⟩ := id C
  unfold f_X9_advance at hf
  refine lv_aload_n hx hb dX9_advance_0 rfl (lv_at hl 0 rfl) ?_
  refine lv_aload_n hx hb dX9_advance_1 rfl (lv_at hl 0 rfl) ?_
  refine va_get (D := D) (ci := 9) (v := .int m_h_behind) (C := RX9) (T := TX9) (N := 6) hx hb hts ui_X9 hown hK hP 0 rfl rfl 5 (by decide) (hts _ fl_X9_26) (fun _ h9 => h9) rfl dX9_advance_2 ?_
  refine va_put (D := D) (ci := 9) (v := .int m_h_behind) (ty := .int) (C := RX9) (T := TX9) (N := 6) hx hb hts ui_X9 tyX9 tyX9_ok nmX9 hown hK hP hD hS 0 rfl rfl 3 (by decide) (hts _ fl_X9_20) (fun _ h9 => h9) rfl rfl rfl rfl (Nat.le_of_ble_eq_true rfl) dX9_advance_5 (fun H locs hP hD hS => ?_)
  have hP : va_P D vwCl [(h, .inr (9, [.ref q_h_bytes, .int m_h_length, .int m_h_kind, .int m_h_behind, .int m_h_number, .int m_h_behind])), (q_h_bytes, aB cy 200 m_h_bytes)] H := hP
  have hD : va_D A [(h, .inr (9, [.ref q_h_bytes, .int m_h_length, .int m_h_kind, .int m_h_behind, .int m_h_number, .int m_h_behind])), (q_h_bytes, aB cy 200 m_h_bytes)] := hD
  obtain ⟨z8, hz8, hf⟩ := zb_of hf
  refine kl_X9_advance_L8 C _ _ _ _ _ _ hz8 hP hD hS (lv_sub hl [0] rfl) (fun H locs ls h0 hP hD hS hl => ?_)
  exact k_X9_advance_J45 C hf hP hD hS (lv_sub hl [0] rfl)
set_option maxRecDepth 100000 in
theorem c_X9_advance (l : Launch) (D : va_G) (cy : Nat → ClassId) (sz : Nat) (h q_h_bytes : Nat) (m_h_length : Int32) (m_h_kind : Int32) (m_h_place : Int32) (m_h_number : Int32) (m_h_behind : Int32) (m_h_bytes : Nat → Int32) {z : Int32 × Int32 × Int32 × Int32} (hf : f_X9_advance m_h_length m_h_number m_h_behind m_h_bytes = some z) : Met l yX9_advance (.code yX9_advance cX9_advance 1 none :: tb) ({ frames := 1, cells := 0, slots := 0, locals := 22 } : Room) (kp D cy sz [.ref h] [(h, .inr (9, [.ref q_h_bytes, .int m_h_length, .int m_h_kind, .int m_h_place, .int m_h_number, .int m_h_behind])), (q_h_bytes, aB cy 200 m_h_bytes)]) (kqv D cy [(h, .inr (9, [.ref q_h_bytes, .int m_h_length, .int z.1, .int z.2.1, .int z.2.2.1, .int z.2.2.2])), (q_h_bytes, aB cy 200 m_h_bytes)] (va_A [(h, .inr (9, [.ref q_h_bytes, .int m_h_length, .int m_h_kind, .int m_h_place, .int m_h_number, .int m_h_behind])), (q_h_bytes, aB cy 200 m_h_bytes)] sz)) 0 0 (va_A [(h, .inr (9, [.ref q_h_bytes, .int m_h_length, .int m_h_kind, .int m_h_place, .int m_h_number, .int m_h_behind])), (q_h_bytes, aB cy 200 m_h_bytes)] sz) :=
  met_of (fun A => kqv D cy [(h, .inr (9, [.ref q_h_bytes, .int m_h_length, .int z.1, .int z.2.1, .int z.2.2.1, .int z.2.2.2])), (q_h_bytes, aB cy 200 m_h_bytes)] A) (by decide +kernel) (Nat.le_of_ble_eq_true rfl) (fun p e s m below meth c A ls C hP hD hS hl => k_X9_advance C hf hP hD hS hl)
theorem hd_X9_advance : yX9_advance.cls ≠ "java/lang/invoke/MethodHandle" ∧ yX9_advance.cls ≠ "java/lang/invoke/VarHandle" ∧ (parseMethodDescriptor yX9_advance.desc).map (fun d => d.parameters.length) = some 0 := by decide +kernel
def f_X9_byteAt (v1 : Int32) (m_h_bytes : Nat → Int32) : Option (Int32) :=
  if v1 < 0 then
    some (0 : Int32)
  else
    if (200 : Int32) ≤ v1 then
      some (0 : Int32)
    else
      zc v1 200 <|
      some (m_h_bytes v1.toNatClampNeg)
set_option maxHeartbeats 4000000 in
set_option maxRecDepth 100000 in
theorem k_X9_byteAt {h q_h_bytes : Nat} {v1 : Int32} {m_h_length : Int32} {m_h_kind : Int32} {m_h_place : Int32} {m_h_number : Int32} {m_h_behind : Int32} {m_h_bytes : Nat → Int32} {z : Int32} (C : cx p s m args meth c cX9_byteAt 2 (some .int) RX9 D cy A) (hf : f_X9_byteAt v1 m_h_bytes = some z) (hP : va_P D vwCl [(h, .inr (9, [.ref q_h_bytes, .int m_h_length, .int m_h_kind, .int m_h_place, .int m_h_number, .int m_h_behind])), (q_h_bytes, aB cy 200 m_h_bytes)] H) (hD : va_D A [(h, .inr (9, [.ref q_h_bytes, .int m_h_length, .int m_h_kind, .int m_h_place, .int m_h_number, .int m_h_behind])), (q_h_bytes, aB cy 200 m_h_bytes)]) (hS : va_S A s.heap H locs) (hl : lv_has ls 2 [(0, .ref h), (1, .int v1)]) : W p l e ({ frames := 0, cells := 0, slots := 0, locals := 0 } : Room) s m args below meth c H locs 0 0 (MQ below (kqi D cy [(h, .inr (9, [.ref q_h_bytes, .int m_h_length, .int m_h_kind, .int m_h_place, .int m_h_number, .int m_h_behind])), (q_h_bytes, aB cy 200 m_h_bytes)] z A) args s 0 0 A) (F0 m 0 ls []) := by
  obtain ⟨hx, hb, hr, hml, hown, hts, hlk, hK, hA, hN⟩ := id C
  unfold f_X9_byteAt at hf
  refine lv_iload_n hx hb dX9_byteAt_0 rfl (lv_at hl 1 rfl) ?_
  refine lv_if_lt (tgt := 22) hx hb dX9_byteAt_1 (by decide) (fun c1 => ?_) (fun c1 => ?_)
  · have hf := zt c1 hf
    refine lv_iconst (v := 0) hx hb dX9_byteAt_22 (by decide) ?_
    obtain rfl := Option.some.inj hf
    exact ret_i C hP hD hS dX9_byteAt_23
  · have hf := zf c1 hf
    refine lv_iload_n hx hb dX9_byteAt_4 rfl (lv_at hl 1 rfl) ?_
    refine lv_aload_n hx hb dX9_byteAt_5 rfl (lv_at hl 0 rfl) ?_
    refine va_get (D := D) (ci := 9) (v := .ref q_h_bytes) (C := RX9) (T := TX9) (N := 6) hx hb hts ui_X9 hown hK hP 0 rfl rfl 0 (by decide) (hts _ fl_X9_9) (fun _ h9 => h9) rfl dX9_byteAt_6 ?_
    refine va_alen (v := (200 : Int32)) hx hb hK hP 1 0 rfl rfl rfl dX9_byteAt_9 ?_
    refine lv_icmp_ge (tgt := 22) hx hb dX9_byteAt_10 (by decide) (fun c10 => ?_) (fun c10 => ?_)
    · have hf := zt c10 hf
      refine lv_iconst (v := 0) hx hb dX9_byteAt_22 (by decide) ?_
      obtain rfl := Option.some.inj hf
      exact ret_i C hP hD hS dX9_byteAt_23
    · have hf := zf c10 hf
      refine lv_aload_n hx hb dX9_byteAt_13 rfl (lv_at hl 0 rfl) ?_
      refine va_get (D := D) (ci := 9) (v := .ref q_h_bytes) (C := RX9) (T := TX9) (N := 6) hx hb hts ui_X9 hown hK hP 0 rfl rfl 0 (by decide) (hts _ fl_X9_9) (fun _ h9 => h9) rfl dX9_byteAt_14 ?_
      refine lv_iload_n hx hb dX9_byteAt_17 rfl (lv_at hl 1 rfl) ?_
      obtain ⟨hin, hf⟩ := zc_of hf
      refine va_bald hx hb hK hP 1 0 rfl rfl hin dX9_byteAt_18 ?_
      refine lv_goto (tgt := 23) hx hb dX9_byteAt_19 (by decide) ?_
      obtain rfl := Option.some.inj hf
      exact ret_i C hP hD hS dX9_byteAt_23
set_option maxRecDepth 100000 in
theorem c_X9_byteAt (l : Launch) (D : va_G) (cy : Nat → ClassId) (sz : Nat) (h q_h_bytes : Nat) (v1 : Int32) (m_h_length : Int32) (m_h_kind : Int32) (m_h_place : Int32) (m_h_number : Int32) (m_h_behind : Int32) (m_h_bytes : Nat → Int32) {z : Int32} (hf : f_X9_byteAt v1 m_h_bytes = some z) : Met l yX9_byteAt (.code yX9_byteAt cX9_byteAt 2 (some .int) :: tb) ({ frames := 0, cells := 0, slots := 0, locals := 0 } : Room) (kp D cy sz [.ref h, .int v1] [(h, .inr (9, [.ref q_h_bytes, .int m_h_length, .int m_h_kind, .int m_h_place, .int m_h_number, .int m_h_behind])), (q_h_bytes, aB cy 200 m_h_bytes)]) (kqi D cy [(h, .inr (9, [.ref q_h_bytes, .int m_h_length, .int m_h_kind, .int m_h_place, .int m_h_number, .int m_h_behind])), (q_h_bytes, aB cy 200 m_h_bytes)] z (va_A [(h, .inr (9, [.ref q_h_bytes, .int m_h_length, .int m_h_kind, .int m_h_place, .int m_h_number, .int m_h_behind])), (q_h_bytes, aB cy 200 m_h_bytes)] sz)) 0 0 (va_A [(h, .inr (9, [.ref q_h_bytes, .int m_h_length, .int m_h_kind, .int m_h_place, .int m_h_number, .int m_h_behind])), (q_h_bytes, aB cy 200 m_h_bytes)] sz) :=
  met_of (fun A => kqi D cy [(h, .inr (9, [.ref q_h_bytes, .int m_h_length, .int m_h_kind, .int m_h_place, .int m_h_number, .int m_h_behind])), (q_h_bytes, aB cy 200 m_h_bytes)] z A) (by decide +kernel) (Nat.le_of_ble_eq_true rfl) (fun p e s m below meth c A ls C hP hD hS hl => k_X9_byteAt C hf hP hD hS hl)
theorem hd_X9_byteAt : yX9_byteAt.cls ≠ "java/lang/invoke/MethodHandle" ∧ yX9_byteAt.cls ≠ "java/lang/invoke/VarHandle" ∧ (parseMethodDescriptor yX9_byteAt.desc).map (fun d => d.parameters.length) = some 1 := by decide +kernel
