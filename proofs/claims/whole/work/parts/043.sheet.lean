variable {p : Program} {l : Launch} {e : Env} {s : State} {m : MethodId} {args : Array Value} {below : List Frame} {meth : Method} {c : Code} {D : va_G} {cy : Nat → ClassId} {A : Nat → Prop} {H : Heap} {locs : List Loc} {ls : Array Slot} {Q : State → Prop}
def f_X10_add_J32 (v1 : Int32) (m_h_falls : Int32) (m_h_times : Nat → Int32) : Option (Int32 × Int32 × (Nat → Int32)) :=
  zc v1 256 <|
  zl ((m_h_times v1.toNatClampNeg) + (1 : Int32)) fun x46 =>
  zc v1 256 <|
  zl (upd m_h_times v1.toNatClampNeg x46) fun a46 =>
  some (v1, m_h_falls, a46)
set_option maxHeartbeats 4000000 in
set_option maxRecDepth 100000 in
theorem k_X10_add_J32 {h q_h_times : Nat} {v1 : Int32} {m_h_before : Int32} {m_h_falls : Int32} {m_h_times : Nat → Int32} {z : Int32 × Int32 × (Nat → Int32)} (C : cx p s m args meth c cX10_add 2 none RX10 D cy A) (hf : f_X10_add_J32 v1 m_h_falls m_h_times = some z) (hP : va_P D vwCl [(h, .inr (10, [.ref q_h_times, .int m_h_before, .int m_h_falls])), (q_h_times, aI cy 256 m_h_times)] H) (hD : va_D A [(h, .inr (10, [.ref q_h_times, .int m_h_before, .int m_h_falls])), (q_h_times, aI cy 256 m_h_times)]) (hS : va_S A s.heap H locs) (hl : lv_has ls 2 [(0, .ref h), (1, .int v1)]) : W p l e ({ frames := 0, cells := 0, slots := 0, locals := 0 } : Room) s m args below meth c H locs 0 0 (MQ below (kqv D cy [(h, .inr (10, [.ref q_h_times, .int z.1, .int z.2.1])), (q_h_times, aI cy 256 z.2.2)] A) args s 0 0 A) (F0 m 32 ls []) := by
  obtain ⟨hx, hb, hr, hml, hown, hts, hlk, hK, hA, hN⟩ := id C
  unfold f_X10_add_J32 at hf
  refine lv_aload_n hx hb dX10_add_32 rfl (lv_at hl 0 rfl) ?_
  refine lv_iload_n hx hb dX10_add_33 rfl (lv_at hl 1 rfl) ?_
  refine va_put (D := D) (ci := 10) (v := .int v1) (ty := .int) (C := RX10) (T := TX10) (N := 3) hx hb hts ui_X10 tyX10 tyX10_ok nmX10 hown hK hP hD hS 0 rfl rfl 1 (by decide) (hts _ fl_X10_17) (fun _ h9 => h9) rfl rfl rfl rfl (Nat.le_of_ble_eq_true rfl) dX10_add_34 (fun H locs hP hD hS => ?_)
  have hP : va_P D vwCl [(h, .inr (10, [.ref q_h_times, .int v1, .int m_h_falls])), (q_h_times, aI cy 256 m_h_times)] H := hP
  have hD : va_D A [(h, .inr (10, [.ref q_h_times, .int v1, .int m_h_falls])), (q_h_times, aI cy 256 m_h_times)] := hD
  refine lv_aload_n hx hb dX10_add_37 rfl (lv_at hl 0 rfl) ?_
  refine va_get (D := D) (ci := 10) (v := .ref q_h_times) (C := RX10) (T := TX10) (N := 3) hx hb hts ui_X10 hown hK hP 0 rfl rfl 0 (by decide) (hts _ fl_X10_11) (fun _ h9 => h9) rfl dX10_add_38 ?_
  refine lv_iload_n hx hb dX10_add_41 rfl (lv_at hl 1 rfl) ?_
  refine lv_dup2_11 hx hb dX10_add_42 rfl rfl ?_
  obtain ⟨hin, hf⟩ := zc_of hf
  refine va_iald hx hb hK hP 1 1 rfl rfl hin dX10_add_43 ?_
  refine lv_iconst (v := 1) hx hb dX10_add_44 (by decide) ?_
  refine lv_iadd hx hb dX10_add_45 ?_
  refine lv_topi (fun x46 ex46 => ?_)
  have hf := zl_of hf x46 ex46
  obtain ⟨hin, hf⟩ := zc_of hf
  obtain ⟨a46, ea46⟩ : ∃ y : Nat → Int32, y = upd m_h_times v1.toNatClampNeg x46 := ⟨_, rfl⟩
  have hf := zl_of hf a46 ea46
  refine va_iast hx hb hK hP hD hS 1 1 rfl rfl hin dX10_add_46 (fun H locs hP hD hS => ?_)
  rw [← ea46] at hP hD
  have hP : va_P D vwCl [(h, .inr (10, [.ref q_h_times, .int v1, .int m_h_falls])), (q_h_times, aI cy 256 a46)] H := hP
  have hD : va_D A [(h, .inr (10, [.ref q_h_times, .int v1, .int m_h_falls])), (q_h_times, aI cy 256 a46)] := hD
  obtain rfl := Option.some.inj hf
  exact ret_v C hP hD hS dX10_add_47
def f_X10_add (v1 : Int32) (m_h_before : Int32) (m_h_falls : Int32) (m_h_times : Nat → Int32) : Option (Int32 × Int32 × (Nat → Int32)) :=
  if v1 < 0 then
    some (m_h_before, m_h_falls, m_h_times)
  else
    if v1 < (256 : Int32) then
      if m_h_before ≤ v1 then
        f_X10_add_J32 v1 m_h_falls m_h_times
      else
        zl (m_h_falls + (1 : Int32)) fun x29 =>
        f_X10_add_J32 v1 x29 m_h_times
    else
      some (m_h_before, m_h_falls, m_h_times)
set_option maxHeartbeats 4000000 in
set_option maxRecDepth 100000 in
theorem k_X10_add {h q_h_times : Nat} {v1 : Int32} {m_h_before : Int32} {m_h_falls : Int32} {m_h_times : Nat → Int32} {z : Int32 × Int32 × (Nat → Int32)} (C : cx p s m args meth c cX10_add 2 none RX10 D cy A) (hf : f_X10_add v1 m_h_before m_h_falls m_h_times = some z) (hP : va_P D vwCl [(h, .inr (10, [.ref q_h_times, .int m_h_before, .int m_h_falls])), (q_h_times, aI cy 256 m_h_times)] H) (hD : va_D A [(h, .inr (10, [.ref q_h_times, .int m_h_before, .int m_h_falls])), (q_h_times, aI cy 256 m_h_times)]) (hS : va_S A s.heap H locs) (hl : lv_has ls 2 [(0, .ref h), (1, .int v1)]) : W p l e ({ frames := 0, cells := 0, slots := 0, locals := 0 } : Room) s m args below meth c H locs 0 0 (MQ below (kqv D cy [(h, .inr (10, [.ref q_h_times, .int z.1, .int z.2.1])), (q_h_times, aI cy 256 z.2.2)] A) args s 0 0 A) (F0 m 0 ls []) := by
  obtain ⟨hx, hb, hr, hml, hown, hts, hlk, hK, hA, hN⟩ := id C
  unfold f_X10_add at hf
  refine lv_iload_n hx hb dX10_add_0 rfl (lv_at hl 1 rfl) ?_
  refine lv_if_lt (tgt := 13) hx hb dX10_add_1 (by decide) (fun c1 => ?_) (fun c1 => ?_)
  · have hf := zt c1 hf
    obtain rfl := Option.some.inj hf
    exact ret_v C hP hD hS dX10_add_13
  · have hf := zf c1 hf
    refine lv_iload_n hx hb dX10_add_4 rfl (lv_at hl 1 rfl) ?_
    refine lv_aload_n hx hb dX10_add_5 rfl (lv_at hl 0 rfl) ?_
    refine va_get (D := D) (ci := 10) (v := .ref q_h_times) (C := RX10) (T := TX10) (N := 3) hx hb hts ui_X10 hown hK hP 0 rfl rfl 0 (by decide) (hts _ fl_X10_11) (fun _ h9 => h9) rfl dX10_add_6 ?_
    refine va_alen (v := (256 : Int32)) hx hb hK hP 1 1 rfl rfl rfl dX10_add_9 ?_
    refine lv_icmp_lt (tgt := 14) hx hb dX10_add_10 (by decide) (fun c10 => ?_) (fun c10 => ?_)
    · have hf := zt c10 hf
      refine lv_iload_n hx hb dX10_add_14 rfl (lv_at hl 1 rfl) ?_
      refine lv_aload_n hx hb dX10_add_15 rfl (lv_at hl 0 rfl) ?_
      refine va_get (D := D) (ci := 10) (v := .int m_h_before) (C := RX10) (T := TX10) (N := 3) hx hb hts ui_X10 hown hK hP 0 rfl rfl 1 (by decide) (hts _ fl_X10_17) (fun _ h9 => h9) rfl dX10_add_16 ?_
      refine lv_icmp_ge (tgt := 32) hx hb dX10_add_19 (by decide) (fun c19 => ?_) (fun c19 => ?_)
      · have hf := zt c19 hf
        exact k_X10_add_J32 C hf hP hD hS (lv_sub hl [0, 1] rfl)
      · have hf := zf c19 hf
        refine lv_aload_n hx hb dX10_add_22 rfl (lv_at hl 0 rfl) ?_
        refine lv_dup hx hb dX10_add_23 rfl ?_
        refine va_get (D := D) (ci := 10) (v := .int m_h_falls) (C := RX10) (T := TX10) (N := 3) hx hb hts ui_X10 hown hK hP 0 rfl rfl 2 (by decide) (hts _ fl_X10_21) (fun _ h9 => h9) rfl dX10_add_24 ?_
        refine lv_iconst (v := 1) hx hb dX10_add_27 (by decide) ?_
        refine lv_iadd hx hb dX10_add_28 ?_
        refine lv_topi (fun x29 ex29 => ?_)
        have hf := zl_of hf x29 ex29
        refine va_put (D := D) (ci := 10) (v := .int x29) (ty := .int) (C := RX10) (T := TX10) (N := 3) hx hb hts ui_X10 tyX10 tyX10_ok nmX10 hown hK hP hD hS 0 rfl rfl 2 (by decide) (hts _ fl_X10_21) (fun _ h9 => h9) rfl rfl rfl rfl (Nat.le_of_ble_eq_true rfl) dX10_add_29 (fun H locs hP hD hS => ?_)
        have hP : va_P D vwCl [(h, .inr (10, [.ref q_h_times, .int m_h_before, .int x29])), (q_h_times, aI cy 256 m_h_times)] H := hP
        have hD : va_D A [(h, .inr (10, [.ref q_h_times, .int m_h_before, .int x29])), (q_h_times, aI cy 256 m_h_times)] := hD
        exact k_X10_add_J32 C hf hP hD hS (lv_sub hl [0, 1] rfl)
    · have hf := zf c10 hf
      obtain rfl := Option.some.inj hf
      exact ret_v C hP hD hS dX10_add_13
set_option maxRecDepth 100000 in
theorem c_X10_add (l : Launch) (D : va_G) (cy : Nat → ClassId) (sz : Nat) (h q_h_times : Nat) (v1 : Int32) (m_h_before : Int32) (m_h_falls : Int32) (m_h_times : Nat → Int32) {z : Int32 × Int32 × (Nat → Int32)} (hf : f_X10_add v1 m_h_before m_h_falls m_h_times = some z) : Met l yX10_add (.code yX10_add cX10_add 2 none :: tb) ({ frames := 0, cells := 0, slots := 0, locals := 0 } : Room) (kp D cy sz [.ref h, .int v1] [(h, .inr (10, [.ref q_h_times, .int m_h_before, .int m_h_falls])), (q_h_times, aI cy 256 m_h_times)]) (kqv D cy [(h, .inr (10, [.ref q_h_times, .int z.1, .int z.2.1])), (q_h_times, aI cy 256 z.2.2)] (va_A [(h, .inr (10, [.ref q_h_times, .int m_h_before, .int m_h_falls])), (q_h_times, aI cy 256 m_h_times)] sz)) 0 0 (va_A [(h, .inr (10, [.ref q_h_times, .int m_h_before, .int m_h_falls])), (q_h_times, aI cy 256 m_h_times)] sz) :=
  met_of (fun A => kqv D cy [(h, .inr (10, [.ref q_h_times, .int z.1, .int z.2.1])), (q_h_times, aI cy 256 z.2.2)] A) (by decide +kernel) (Nat.le_of_ble_eq_true rfl) (fun p e s m below meth c A ls C hP hD hS hl => k_X10_add C hf hP hD hS hl)
theorem hd_X10_add : yX10_add.cls ≠ "java/lang/invoke/MethodHandle" ∧ yX10_add.cls ≠ "java/lang/invoke/VarHandle" ∧ (parseMethodDescriptor yX10_add.desc).map (fun d => d.parameters.length) = some 1 := by decide +kernel
def f_X10_clear (m_h_times : Nat → Int32) : Option (Int32 × Int32 × (Nat → Int32)) :=
  zb (f_J7_fill_53178 (0 : Int32) m_h_times 256) fun z5 =>
  some ((-4 : Int32), (0 : Int32), z5)
set_option maxHeartbeats 4000000 in
set_option maxRecDepth 100000 in
theorem k_X10_clear {h q_h_times : Nat} {m_h_before : Int32} {m_h_falls : Int32} {m_h_times : Nat → Int32} {z : Int32 × Int32 × (Nat → Int32)} (C : cx p s m args meth c cX10_clear 1 none RX10 D cy A) (hf : f_X10_clear m_h_times = some z) (hP : va_P D vwCl [(h, .inr (10, [.ref q_h_times, .int m_h_before, .int m_h_falls])), (q_h_times, aI cy 256 m_h_times)] H) (hD : va_D A [(h, .inr (10, [.ref q_h_times, .int m_h_before, .int m_h_falls])), (q_h_times, aI cy 256 m_h_times)]) (hS : va_S A s.heap H locs) (hl : lv_has ls 1 [(0, .ref h)]) : W p l e ({ frames := 1, cells := 0, slots := 0, locals := 23 } : Room) s m args below meth c H locs 0 0 (MQ below (kqv D cy [(h, .inr (10, [.ref q_h_times, .int z.1, .int z.2.1])), (q_h_times, aI cy 256 z.2.2)] A) args s 0 0 A) (F0 m 0 ls []) := by
  obtain ⟨hx, hb, hr, hml, hown, hts, hlk, hK, hA, hN⟩ := id C
  unfold f_X10_clear at hf
  refine lv_aload_n hx hb dX10_clear_0 rfl (lv_at hl 0 rfl) ?_
  refine va_get (D := D) (ci := 10) (v := .ref q_h_times) (C := RX10) (T := TX10) (N := 3) hx hb hts ui_X10 hown hK hP 0 rfl rfl 0 (by decide) (hts _ fl_X10_11) (fun _ h9 => h9) rfl dX10_clear_1 ?_
  refine lv_iconst (v := 0) hx hb dX10_clear_4 (by decide) ?_
  obtain ⟨z5, hz5, hf⟩ := zb_of hf
  refine goV (wr := [(h, .inr (10, [.ref q_h_times, .int m_h_before, .int m_h_falls]))]) (ws' := [(h, .inr (10, [.ref q_h_times, .int m_h_before, .int m_h_falls])), (q_h_times, aI cy 256 z5)]) C (runS (n := 2) (As := [.ref q_h_times, .int (0 : Int32)]) (rest := []) C (c_J7_fill_53178 l D cy H.size q_h_times (0 : Int32) m_h_times 256 hz5) ml_X10_24 st_J7_fill_53178 ii_J7 cd_J7_fill_53178 hd_J7_fill_53178 rfl rfl ⟨Nat.le_of_ble_eq_true rfl, Nat.le_of_ble_eq_true rfl⟩ (hP.sub [1] rfl) (hD.sub [1] (by decide) rfl) hS rfl hl.1 rfl (Nat.le_of_ble_eq_true rfl) dX10_clear_5) hP hD hS [1] [0] [0, 1] rfl rfl (by decide) (by decide) rfl (by decide) (fun H locs hP hD hS => ?_)
  refine lv_aload_n hx hb dX10_clear_8 rfl (lv_at hl 0 rfl) ?_
  refine lv_bipush (v := -4) hx hb dX10_clear_9 (by decide) ?_
  refine va_put (D := D) (ci := 10) (v := .int (-4 : Int32)) (ty := .int) (C := RX10) (T := TX10) (N := 3) hx hb hts ui_X10 tyX10 tyX10_ok nmX10 hown hK hP hD hS 0 rfl rfl 1 (by decide) (hts _ fl_X10_17) (fun _ h9 => h9) rfl rfl rfl rfl (Nat.le_of_ble_eq_true rfl) dX10_clear_11 (fun H locs hP hD hS => ?_)
  have hP : va_P D vwCl [(h, .inr (10, [.ref q_h_times, .int (-4 : Int32), .int m_h_falls])), (q_h_times, aI cy 256 z5)] H := hP
  have hD : va_D A [(h, .inr (10, [.ref q_h_times, .int (-4 : Int32), .int m_h_falls])), (q_h_times, aI cy 256 z5)] := hD
  refine lv_aload_n hx hb dX10_clear_14 rfl (lv_at hl 0 rfl) ?_
  refine lv_iconst (v := 0) hx hb dX10_clear_15 (by decide) ?_
  refine va_put (D := D) (ci := 10) (v := .int (0 : Int32)) (ty := .int) (C := RX10) (T := TX10) (N := 3) hx hb hts ui_X10 tyX10 tyX10_ok nmX10 hown hK hP hD hS 0 rfl rfl 2 (by decide) (hts _ fl_X10_21) (fun _ h9 => h9) rfl rfl rfl rfl (Nat.le_of_ble_eq_true rfl) dX10_clear_16 (fun H locs hP hD hS => ?_)
  have hP : va_P D vwCl [(h, .inr (10, [.ref q_h_times, .int (-4 : Int32), .int (0 : Int32)])), (q_h_times, aI cy 256 z5)] H := hP
  have hD : va_D A [(h, .inr (10, [.ref q_h_times, .int (-4 : Int32), .int (0 : Int32)])), (q_h_times, aI cy 256 z5)] := hD
  obtain rfl := Option.some.inj hf
  exact ret_v C hP hD hS dX10_clear_19
set_option maxRecDepth 100000 in
theorem c_X10_clear (l : Launch) (D : va_G) (cy : Nat → ClassId) (sz : Nat) (h q_h_times : Nat) (m_h_before : Int32) (m_h_falls : Int32) (m_h_times : Nat → Int32) {z : Int32 × Int32 × (Nat → Int32)} (hf : f_X10_clear m_h_times = some z) : Met l yX10_clear (.code yX10_clear cX10_clear 1 none :: tb) ({ frames := 1, cells := 0, slots := 0, locals := 23 } : Room) (kp D cy sz [.ref h] [(h, .inr (10, [.ref q_h_times, .int m_h_before, .int m_h_falls])), (q_h_times, aI cy 256 m_h_times)]) (kqv D cy [(h, .inr (10, [.ref q_h_times, .int z.1, .int z.2.1])), (q_h_times, aI cy 256 z.2.2)] (va_A [(h, .inr (10, [.ref q_h_times, .int m_h_before, .int m_h_falls])), (q_h_times, aI cy 256 m_h_times)] sz)) 0 0 (va_A [(h, .inr (10, [.ref q_h_times, .int m_h_before, .int m_h_falls])), (q_h_times, aI cy 256 m_h_times)] sz) :=
  met_of (fun A => kqv D cy [(h, .inr (10, [.ref q_h_times, .int z.1, .int z.2.1])), (q_h_times, aI cy 256 z.2.2)] A) (by decide +kernel) (Nat.le_of_ble_eq_true rfl) (fun p e s m below meth c A ls C hP hD hS hl => k_X10_clear C hf hP hD hS hl)
theorem hd_X10_clear : yX10_clear.cls ≠ "java/lang/invoke/MethodHandle" ∧ yX10_clear.cls ≠ "java/lang/invoke/VarHandle" ∧ (parseMethodDescriptor yX10_clear.desc).map (fun d => d.parameters.length) = some 0 := by decide +kernel
def f_X10_mostOften_J35_7 (v1 : Int32) (v2 : Int32) (v3 : Int32) : Option (Nat × (Int32 × Int32 × Int32)) :=
  zl (v3 + (1 : Int32)) fun x35 =>
  some (0, (v1, v2, x35))
set_option maxHeartbeats 4000000 in
set_option maxRecDepth 100000 in
theorem k_X10_mostOften_J35_7 {h q_h_times : Nat} {v1 : Int32} {v2 : Int32} {v3 : Int32} {m_h_before : Int32} {m_h_falls : Int32} {m_h_times : Nat → Int32} {z : Nat × (Int32 × Int32 × Int32)} (C : cx p s m args meth c cX10_mostOften 4 (some .int) RX10 D cy A) (hf : f_X10_mostOften_J35_7 v1 v2 v3 = some z) (hP : va_P D vwCl [(h, .inr (10, [.ref q_h_times, .int m_h_before, .int m_h_falls])), (q_h_times, aI cy 256 m_h_times)] H) (hD : va_D A [(h, .inr (10, [.ref q_h_times, .int m_h_before, .int m_h_falls])), (q_h_times, aI cy 256 m_h_times)]) (hS : va_S A s.heap H locs) (hl : lv_has ls 4 [(0, .ref h), (1, .int v1), (2, .int v2), (3, .int v3)]) (hE0 : ∀ (H : Heap) (locs : List Loc) (ls : Array Slot), z.1 = 0 → va_P D vwCl [(h, .inr (10, [.ref q_h_times, .int m_h_before, .int m_h_falls])), (q_h_times, aI cy 256 m_h_times)] H → va_D A [(h, .inr (10, [.ref q_h_times, .int m_h_before, .int m_h_falls])), (q_h_times, aI cy 256 m_h_times)] → va_S A s.heap H locs → lv_has ls 4 [(0, .ref h), (1, .int z.2.1), (2, .int z.2.2.1), (3, .int z.2.2.2)] → W p l e ({ frames := 0, cells := 0, slots := 0, locals := 0 } : Room) s m args below meth c H locs 0 0 Q (F0 m 7 ls [])) (hE1 : ∀ (H : Heap) (locs : List Loc) (ls : Array Slot), z.1 = 1 → va_P D vwCl [(h, .inr (10, [.ref q_h_times, .int m_h_before, .int m_h_falls])), (q_h_times, aI cy 256 m_h_times)] H → va_D A [(h, .inr (10, [.ref q_h_times, .int m_h_before, .int m_h_falls])), (q_h_times, aI cy 256 m_h_times)] → va_S A s.heap H locs → lv_has ls 4 [(2, .int z.2.2.1)] → W p l e ({ frames := 0, cells := 0, slots := 0, locals := 0 } : Room) s m args below meth c H locs 0 0 Q (F0 m 41 ls [])) : W p l e ({ frames := 0, cells := 0, slots := 0, locals := 0 } : Room) s m args below meth c H locs 0 0 Q (F0 m 35 ls []) := by
  obtain ⟨hx, hb, hr, hml, hown, hts, hlk, hK, hA, hN⟩ := id C
  unfold f_X10_mostOften_J35_7 at hf
  obtain ⟨x35, ex35⟩ : ∃ y : Int32, y = v3 + (1 : Int32) := ⟨_, rfl⟩
  have hf := zl_of hf x35 ex35
  refine lv_iinc (v := x35) (lv' := [(3, .int x35), (0, .ref h), (1, .int v1), (2, .int v2)]) hx hb dX10_mostOften_35 hl (k := 3) rfl (by rw [ex35]; rfl) (by decide) rfl (fun ls hl => ?_)
  refine lv_goto (tgt := 7) hx hb dX10_mostOften_38 (by decide) ?_
  obtain rfl := Option.some.inj hf
  exact hE0 _ _ _ rfl hP hD hS (lv_sub hl [1, 2, 3, 0] rfl)
def f_X10_mostOften_L7 (m_h_times : Nat → Int32) (w : Int32 × Int32 × Int32) : Option (Nat × (Int32 × Int32 × Int32)) :=
  if (256 : Int32) ≤ w.2.2 then
    some (1, (w.1, w.2.1, w.2.2))
  else
    zc w.2.2 256 <|
    if (m_h_times w.2.2.toNatClampNeg) ≤ w.1 then
      f_X10_mostOften_J35_7 w.1 w.2.1 w.2.2
    else
      zc w.2.2 256 <|
      zl (m_h_times w.2.2.toNatClampNeg) fun x32 =>
      f_X10_mostOften_J35_7 x32 w.2.2 w.2.2
set_option maxHeartbeats 4000000 in
set_option maxRecDepth 100000 in
theorem k_X10_mostOften_L7 {h q_h_times : Nat} {m_h_before : Int32} {m_h_falls : Int32} {m_h_times : Nat → Int32} {w : Int32 × Int32 × Int32} {z : Nat × (Int32 × Int32 × Int32)} (C : cx p s m args meth c cX10_mostOften 4 (some .int) RX10 D cy A) (hf : f_X10_mostOften_L7 m_h_times w = some z) (hP : va_P D vwCl [(h, .inr (10, [.ref q_h_times, .int m_h_before, .int m_h_falls])), (q_h_times, aI cy 256 m_h_times)] H) (hD : va_D A [(h, .inr (10, [.ref q_h_times, .int m_h_before, .int m_h_falls])), (q_h_times, aI cy 256 m_h_times)]) (hS : va_S A s.heap H locs) (hl : lv_has ls 4 [(0, .ref h), (1, .int w.1), (2, .int w.2.1), (3, .int w.2.2)]) (hE0 : ∀ (H : Heap) (locs : List Loc) (ls : Array Slot), z.1 = 0 → va_P D vwCl [(h, .inr (10, [.ref q_h_times, .int m_h_before, .int m_h_falls])), (q_h_times, aI cy 256 m_h_times)] H → va_D A [(h, .inr (10, [.ref q_h_times, .int m_h_before, .int m_h_falls])), (q_h_times, aI cy 256 m_h_times)] → va_S A s.heap H locs → lv_has ls 4 [(0, .ref h), (1, .int z.2.1), (2, .int z.2.2.1), (3, .int z.2.2.2)] → W p l e ({ frames := 0, cells := 0, slots := 0, locals := 0 } : Room) s m args below meth c H locs 0 0 Q (F0 m 7 ls [])) (hE1 : ∀ (H : Heap) (locs : List Loc) (ls : Array Slot), z.1 = 1 → va_P D vwCl [(h, .inr (10, [.ref q_h_times, .int m_h_before, .int m_h_falls])), (q_h_times, aI cy 256 m_h_times)] H → va_D A [(h, .inr (10, [.ref q_h_times, .int m_h_before, .int m_h_falls])), (q_h_times, aI cy 256 m_h_times)] → va_S A s.heap H locs → lv_has ls 4 [(2, .int z.2.2.1)] → W p l e ({ frames := 0, cells := 0, slots := 0, locals := 0 } : Room) s m args below meth c H locs 0 0 Q (F0 m 41 ls [])) : W p l e ({ frames := 0, cells := 0, slots := 0, locals := 0 } : Room) s m args below meth c H locs 0 0 Q (F0 m 7 ls []) := by
  obtain ⟨hx, hb, hr, hml, hown, hts, hlk, hK, hA, hN⟩ := id C
  unfold f_X10_mostOften_L7 at hf
  refine lv_iload_n hx hb dX10_mostOften_7 rfl (lv_at hl 3 rfl) ?_
  refine lv_aload_n hx hb dX10_mostOften_8 rfl (lv_at hl 0 rfl) ?_
  refine va_get (D := D) (ci := 10) (v := .ref q_h_times) (C := RX10) (T := TX10) (N := 3) hx hb hts ui_X10 hown hK hP 0 rfl rfl 0 (by decide) (hts _ fl_X10_11) (fun _ h9 => h9) rfl dX10_mostOften_9 ?_
  refine va_alen (v := (256 : Int32)) hx hb hK hP 1 1 rfl rfl rfl dX10_mostOften_12 ?_
  refine lv_icmp_ge (tgt := 41) hx hb dX10_mostOften_13 (by decide) (fun c13 => ?_) (fun c13 => ?_)
  · have hf := zt c13 hf
    obtain rfl := Option.some.inj hf
    exact hE1 _ _ _ rfl hP hD hS (lv_sub hl [2] rfl)
  · have hf := zf c13 hf
    refine lv_aload_n hx hb dX10_mostOften_16 rfl (lv_at hl 0 rfl) ?_
    refine va_get (D := D) (ci := 10) (v := .ref q_h_times) (C := RX10) (T := TX10) (N := 3) hx hb hts ui_X10 hown hK hP 0 rfl rfl 0 (by decide) (hts _ fl_X10_11) (fun _ h9 => h9) rfl dX10_mostOften_17 ?_
    refine lv_iload_n hx hb dX10_mostOften_20 rfl (lv_at hl 3 rfl) ?_
    obtain ⟨hin, hf⟩ := zc_of hf
    refine va_iald hx hb hK hP 1 1 rfl rfl hin dX10_mostOften_21 ?_
    refine lv_iload_n hx hb dX10_mostOften_22 rfl (lv_at hl 1 rfl) ?_
    refine lv_icmp_le (tgt := 35) hx hb dX10_mostOften_23 (by decide) (fun c23 => ?_) (fun c23 => ?_)
    · have hf := zt c23 hf
      exact k_X10_mostOften_J35_7 C hf hP hD hS (lv_sub hl [0, 1, 2, 3] rfl) hE0 hE1
    · have hf := zf c23 hf
      refine lv_aload_n hx hb dX10_mostOften_26 rfl (lv_at hl 0 rfl) ?_
      refine va_get (D := D) (ci := 10) (v := .ref q_h_times) (C := RX10) (T := TX10) (N := 3) hx hb hts ui_X10 hown hK hP 0 rfl rfl 0 (by decide) (hts _ fl_X10_11) (fun _ h9 => h9) rfl dX10_mostOften_27 ?_
      refine lv_iload_n hx hb dX10_mostOften_30 rfl (lv_at hl 3 rfl) ?_
      obtain ⟨hin, hf⟩ := zc_of hf
      refine va_iald hx hb hK hP 1 1 rfl rfl hin dX10_mostOften_31 ?_
      refine lv_topi (fun x32 ex32 => ?_)
      have hf := zl_of hf x32 ex32
      refine lv_istore_n (lv' := [(1, .int x32), (0, .ref h), (2, .int w.2.1), (3, .int w.2.2)]) hx hb dX10_mostOften_32 rfl hl (by decide) rfl (fun ls hl => ?_)
      refine lv_iload_n hx hb dX10_mostOften_33 rfl (lv_at hl 3 rfl) ?_
      refine lv_istore_n (lv' := [(2, .int w.2.2), (1, .int x32), (0, .ref h), (3, .int w.2.2)]) hx hb dX10_mostOften_34 rfl hl (by decide) rfl (fun ls hl => ?_)
      exact k_X10_mostOften_J35_7 C hf hP hD hS (lv_sub hl [2, 1, 0, 3] rfl) hE0 hE1
set_option maxHeartbeats 4000000 in
set_option maxRecDepth 100000 in
theorem kl_X10_mostOften_L7 {h q_h_times : Nat} {m_h_before : Int32} {m_h_falls : Int32} {m_h_times : Nat → Int32} (C : cx p s m args meth c cX10_mostOften 4 (some .int) RX10 D cy A) : ∀ (n : Nat) (w : Int32 × Int32 × Int32) (z : Nat × (Int32 × Int32 × Int32)) (H : Heap) (locs : List Loc) (ls : Array Slot), zp (f_X10_mostOften_L7 m_h_times) n w = some z → va_P D vwCl [(h, .inr (10, [.ref q_h_times, .int m_h_before, .int m_h_falls])), (q_h_times, aI cy 256 m_h_times)] H → va_D A [(h, .inr (10, [.ref q_h_times, .int m_h_before, .int m_h_falls])), (q_h_times, aI cy 256 m_h_times)] → va_S A s.heap H locs → lv_has ls 4 [(0, .ref h), (1, .int w.1), (2, .int w.2.1), (3, .int w.2.2)] → (∀ (H : Heap) (locs : List Loc) (ls : Array Slot), z.1 = 1 → va_P D vwCl [(h, .inr (10, [.ref q_h_times, .int m_h_before, .int m_h_falls])), (q_h_times, aI cy 256 m_h_times)] H → va_D A [(h, .inr (10, [.ref q_h_times, .int m_h_before, .int m_h_falls])), (q_h_times, aI cy 256 m_h_times)] → va_S A s.heap H locs → lv_has ls 4 [(2, .int z.2.2.1)] → W p l e ({ frames := 0, cells := 0, slots := 0, locals := 0 } : Room) s m args below meth c H locs 0 0 Q (F0 m 41 ls [])) → W p l e ({ frames := 0, cells := 0, slots := 0, locals := 0 } : Room) s m args below meth c H locs 0 0 Q (F0 m 7 ls []) := by
  intro n
  induction n with
  | zero => intro w z H locs ls hf; cases hf
  | succ n ih =>
    intro w z H locs ls hf hP hD hS hl hE1
    obtain ⟨w1, hw, hd⟩ := zp_s hf
    refine k_X10_mostOften_L7 C hw hP hD hS hl (fun H locs ls h0 hP hD hS hl => ?_) (fun H locs ls h0 hP hD hS hl => ?_)
    · rcases hd with ⟨_, h⟩ | ⟨h, _⟩
      · exact ih _ _ _ _ _ h hP hD hS hl hE1
      · exact absurd h0 h
    · rcases hd with ⟨h, _⟩ | ⟨_, h⟩
      · exact absurd (h.symm.trans h0) (by decide)
      · subst h; exact hE1 _ _ _ h0 hP hD hS hl
def f_X10_mostOften (m_h_times : Nat → Int32) : Option (Int32) :=
  zb (zp (f_X10_mostOften_L7 m_h_times) zF ((0 : Int32), (-4 : Int32), (0 : Int32))) fun z7 =>
  some z7.2.2.1
set_option maxHeartbeats 4000000 in
set_option maxRecDepth 100000 in
theorem k_X10_mostOften {h q_h_times : Nat} {m_h_before : Int32} {m_h_falls : Int32} {m_h_times : Nat → Int32} {z : Int32} (C : cx p s m args meth c cX10_mostOften 4 (some .int) RX10 D cy A) (hf : f_X10_mostOften m_h_times = some z) (hP : va_P D vwCl [(h, .inr (10, [.ref q_h_times, .int m_h_before, .int m_h_falls])), (q_h_times, aI cy 256 m_h_times)] H) (hD : va_D A [(h, .inr (10, [.ref q_h_times, .int m_h_before, .int m_h_falls])), (q_h_times, aI cy 256 m_h_times)]) (hS : va_S A s.heap H locs) (hl : lv_has ls 4 [(0, .ref h)]) : W p l e ({ frames := 0, cells := 0, slots := 0, locals := 0 } : Room) s m args below meth c H locs 0 0 (MQ below (kqi D cy [(h, .inr (10, [.ref q_h_times, .int m_h_before, .int m_h_falls])), (q_h_times, aI cy 256 m_h_times)] z A) args s 0 0 A) (F0 m 0 ls []) := by
  obtain ⟨hx, hb, hr, hml, hown, hts, hlk, hK, hA, hN⟩ := id C
  unfold f_X10_mostOften at hf
  refine lv_iconst (v := 0) hx hb dX10_mostOften_0 (by decide) ?_
  refine lv_istore_n (lv' := [(1, .int (0 : Int32)), (0, .ref h)]) hx hb dX10_mostOften_1 rfl hl (by decide) rfl (fun ls hl => ?_)
  refine lv_bipush (v := -4) hx hb dX10_mostOften_2 (by decide) ?_
  refine lv_istore_n (lv' := [(2, .int (-4 : Int32)), (1, .int (0 : Int32)), (0, .ref h)]) hx hb dX10_mostOften_4 rfl hl (by decide) rfl (fun ls hl => ?_)
  refine lv_iconst (v := 0) hx hb dX10_mostOften_5 (by decide) ?_
  refine lv_istore_n (lv' := [(3, .int (0 : Int32)), (2, .int (-4 : Int32)), (1, .int (0 : Int32)), (0, .ref h)]) hx hb dX10_mostOften_6 rfl hl (by decide) rfl (fun ls hl => ?_)
  obtain ⟨z7, hz7, hf⟩ := zb_of hf
  refine kl_X10_mostOften_L7 C _ _ _ _ _ _ hz7 hP hD hS (lv_sub hl [3, 2, 1, 0] rfl) (fun H locs ls h0 hP hD hS hl => ?_)
  refine lv_iload_n hx hb dX10_mostOften_41 rfl (lv_at hl 0 rfl) ?_
  obtain rfl := Option.some.inj hf
  exact ret_i C hP hD hS dX10_mostOften_42
set_option maxRecDepth 100000 in
theorem c_X10_mostOften (l : Launch) (D : va_G) (cy : Nat → ClassId) (sz : Nat) (h q_h_times : Nat) (m_h_before : Int32) (m_h_falls : Int32) (m_h_times : Nat → Int32) {z : Int32} (hf : f_X10_mostOften m_h_times = some z) : Met l yX10_mostOften (.code yX10_mostOften cX10_mostOften 4 (some .int) :: tb) ({ frames := 0, cells := 0, slots := 0, locals := 0 } : Room) (kp D cy sz [.ref h] [(h, .inr (10, [.ref q_h_times, .int m_h_before, .int m_h_falls])), (q_h_times, aI cy 256 m_h_times)]) (kqi D cy [(h, .inr (10, [.ref q_h_times, .int m_h_before, .int m_h_falls])), (q_h_times, aI cy 256 m_h_times)] z (va_A [(h, .inr (10, [.ref q_h_times, .int m_h_before, .int m_h_falls])), (q_h_times, aI cy 256 m_h_times)] sz)) 0 0 (va_A [(h, .inr (10, [.ref q_h_times, .int m_h_before, .int m_h_falls])), (q_h_times, aI cy 256 m_h_times)] sz) :=
  met_of (fun A => kqi D cy [(h, .inr (10, [.ref q_h_times, .int m_h_before, .int m_h_falls])), (q_h_times, aI cy 256 m_h_times)] z A) (by decide +kernel) (Nat.le_of_ble_eq_true rfl) (fun p e s m below meth c A ls C hP hD hS hl => k_X10_mostOften C hf hP hD hS hl)
theorem hd_X10_mostOften : yX10_mostOften.cls ≠ "java/lang/invoke/MethodHandle" ∧ yX10_mostOften.cls ≠ "java/lang/invoke/VarHandle" ∧ (parseMethodDescriptor yX10_mostOften.desc).map (fun d => d.parameters.length) = some 0 := by decide +kernel
def f_X10_unlike_J25_4 (v1 : Int32) (v2 : Int32) : Option (Nat × (Int32 × Int32)) :=
  zl (v2 + (1 : Int32)) fun x25 =>
  some (0, (v1, x25))
set_option maxHeartbeats 4000000 in
set_option maxRecDepth 100000 in
theorem k_X10_unlike_J25_4 {h q_h_times : Nat} {v1 : Int32} {v2 : Int32} {m_h_before : Int32} {m_h_falls : Int32} {m_h_times : Nat → Int32} {z : Nat × (Int32 × Int32)} (C : cx p s m args meth c cX10_unlike 3 (some .int) RX10 D cy A) (hf : f_X10_unlike_J25_4 v1 v2 = some z) (hP : va_P D vwCl [(h, .inr (10, [.ref q_h_times, .int m_h_before, .int m_h_falls])), (q_h_times, aI cy 256 m_h_times)] H) (hD : va_D A [(h, .inr (10, [.ref q_h_times, .int m_h_before, .int m_h_falls])), (q_h_times, aI cy 256 m_h_times)]) (hS : va_S A s.heap H locs) (hl : lv_has ls 3 [(0, .ref h), (1, .int v1), (2, .int v2)]) (hE0 : ∀ (H : Heap) (locs : List Loc) (ls : Array Slot), z.1 = 0 → va_P D vwCl [(h, .inr (10, [.ref q_h_times, .int m_h_before, .int m_h_falls])), (q_h_times, aI cy 256 m_h_times)] H → va_D A [(h, .inr (10, [.ref q_h_times, .int m_h_before, .int m_h_falls])), (q_h_times, aI cy 256 m_h_times)] → va_S A s.heap H locs → lv_has ls 3 [(0, .ref h), (1, .int z.2.1), (2, .int z.2.2)] → W p l e ({ frames := 0, cells := 0, slots := 0, locals := 0 } : Room) s m args below meth c H locs 0 0 Q (F0 m 4 ls [])) (hE1 : ∀ (H : Heap) (locs : List Loc) (ls : Array Slot), z.1 = 1 → va_P D vwCl [(h, .inr (10, [.ref q_h_times, .int m_h_before, .int m_h_falls])), (q_h_times, aI cy 256 m_h_times)] H → va_D A [(h, .inr (10, [.ref q_h_times, .int m_h_before, .int m_h_falls])), (q_h_times, aI cy 256 m_h_times)] → va_S A s.heap H locs → lv_has ls 3 [(1, .int z.2.1)] → W p l e ({ frames := 0, cells := 0, slots := 0, locals := 0 } : Room) s m args below meth c H locs 0 0 Q (F0 m 31 ls [])) : W p l e ({ frames := 0, cells := 0, slots := 0, locals := 0 } : Room) s m args below meth c H locs 0 0 Q (F0 m 25 ls []) := by
  obtain ⟨hx, hb, hr, hml, hown, hts, hlk, hK, hA, hN⟩ := id C
  unfold f_X10_unlike_J25_4 at hf
  obtain ⟨x25, ex25⟩ : ∃ y : Int32, y = v2 + (1 : Int32) := ⟨_, rfl⟩
  have hf := zl_of hf x25 ex25
  refine lv_iinc (v := x25) (lv' := [(2, .int x25), (0, .ref h), (1, .int v1)]) hx hb dX10_unlike_25 hl (k := 2) rfl (by rw [ex25]; rfl) (by decide) rfl (fun ls hl => ?_)
  refine lv_goto (tgt := 4) hx hb dX10_unlike_28 (by decide) ?_
  obtain rfl := Option.some.inj hf
  exact hE0 _ _ _ rfl hP hD hS (lv_sub hl [1, 2, 0] rfl)
def f_X10_unlike_L4 (m_h_times : Nat → Int32) (w : Int32 × Int32) : Option (Nat × (Int32 × Int32)) :=
  if (256 : Int32) ≤ w.2 then
    some (1, (w.1, w.2))
  else
    zc w.2 256 <|
    if (m_h_times w.2.toNatClampNeg) ≤ 0 then
      f_X10_unlike_J25_4 w.1 w.2
    else
      zl (w.1 + (1 : Int32)) fun x22 =>
      f_X10_unlike_J25_4 x22 w.2
set_option maxHeartbeats 4000000 in
set_option maxRecDepth 100000 in
theorem k_X10_unlike_L4 {h q_h_times : Nat} {m_h_before : Int32} {m_h_falls : Int32} {m_h_times : Nat → Int32} {w : Int32 × Int32} {z : Nat × (Int32 × Int32)} (C : cx p s m args meth c cX10_unlike 3 (some .int) RX10 D cy A) (hf : f_X10_unlike_L4 m_h_times w = some z) (hP : va_P D vwCl [(h, .inr (10, [.ref q_h_times, .int m_h_before, .int m_h_falls])), (q_h_times, aI cy 256 m_h_times)] H) (hD : va_D A [(h, .inr (10, [.ref q_h_times, .int m_h_before, .int m_h_falls])), (q_h_times, aI cy 256 m_h_times)]) (hS : va_S A s.heap H locs) (hl : lv_has ls 3 [(0, .ref h), (1, .int w.1), (2, .int w.2)]) (hE0 : ∀ (H : Heap) (locs : List Loc) (ls : Array Slot), z.1 = 0 → va_P D vwCl [(h, .inr (10, [.ref q_h_times, .int m_h_before, .int m_h_falls])), (q_h_times, aI cy 256 m_h_times)] H → va_D A [(h, .inr (10, [.ref q_h_times, .int m_h_before, .int m_h_falls])), (q_h_times, aI cy 256 m_h_times)] → va_S A s.heap H locs → lv_has ls 3 [(0, .ref h), (1, .int z.2.1), (2, .int z.2.2)] → W p l e ({ frames := 0, cells := 0, slots := 0, locals := 0 } : Room) s m args below meth c H locs 0 0 Q (F0 m 4 ls [])) (hE1 : ∀ (H : Heap) (locs : List Loc) (ls : Array Slot), z.1 = 1 → va_P D vwCl [(h, .inr (10, [.ref q_h_times, .int m_h_before, .int m_h_falls])), (q_h_times, aI cy 256 m_h_times)] H → va_D A [(h, .inr (10, [.ref q_h_times, .int m_h_before, .int m_h_falls])), (q_h_times, aI cy 256 m_h_times)] → va_S A s.heap H locs → lv_has ls 3 [(1, .int z.2.1)] → W p l e ({ frames := 0, cells := 0, slots := 0, locals := 0 } : Room) s m args below meth c H locs 0 0 Q (F0 m 31 ls [])) : W p l e ({ frames := 0, cells := 0, slots := 0, locals := 0 } : Room) s m args below meth c H locs 0 0 Q (F0 m 4 ls []) := by
  obtain ⟨hx, hb, hr, hml, hown, hts, hlk, hK, hA, hN⟩ := id C
  unfold f_X10_unlike_L4 at hf
  refine lv_iload_n hx hb dX10_unlike_4 rfl (lv_at hl 2 rfl) ?_
  refine lv_aload_n hx hb dX10_unlike_5 rfl (lv_at hl 0 rfl) ?_
  refine va_get (D := D) (ci := 10) (v := .ref q_h_times) (C := RX10) (T := TX10) (N := 3) hx hb hts ui_X10 hown hK hP 0 rfl rfl 0 (by decide) (hts _ fl_X10_11) (fun _ h9 => h9) rfl dX10_unlike_6 ?_
  refine va_alen (v := (256 : Int32)) hx hb hK hP 1 1 rfl rfl rfl dX10_unlike_9 ?_
  refine lv_icmp_ge (tgt := 31) hx hb dX10_unlike_10 (by decide) (fun c10 => ?_) (fun c10 => ?_)
  · have hf := zt c10 hf
    obtain rfl := Option.some.inj hf
    exact hE1 _ _ _ rfl hP hD hS (lv_sub hl [1] rfl)
  · have hf := zf c10 hf
    refine lv_aload_n hx hb dX10_unlike_13 rfl (lv_at hl 0 rfl) ?_
    refine va_get (D := D) (ci := 10) (v := .ref q_h_times) (C := RX10) (T := TX10) (N := 3) hx hb hts ui_X10 hown hK hP 0 rfl rfl 0 (by decide) (hts _ fl_X10_11) (fun _ h9 => h9) rfl dX10_unlike_14 ?_
    refine lv_iload_n hx hb dX10_unlike_17 rfl (lv_at hl 2 rfl) ?_
    obtain ⟨hin, hf⟩ := zc_of hf
    refine va_iald hx hb hK hP 1 1 rfl rfl hin dX10_unlike_18 ?_
    refine lv_if_le (tgt := 25) hx hb dX10_unlike_19 (by decide) (fun c19 => ?_) (fun c19 => ?_)
    · have hf := zt c19 hf
      exact k_X10_unlike_J25_4 C hf hP hD hS (lv_sub hl [0, 1, 2] rfl) hE0 hE1
    · have hf := zf c19 hf
      obtain ⟨x22, ex22⟩ : ∃ y : Int32, y = w.1 + (1 : Int32) := ⟨_, rfl⟩
      have hf := zl_of hf x22 ex22
      refine lv_iinc (v := x22) (lv' := [(1, .int x22), (0, .ref h), (2, .int w.2)]) hx hb dX10_unlike_22 hl (k := 1) rfl (by rw [ex22]; rfl) (by decide) rfl (fun ls hl => ?_)
      exact k_X10_unlike_J25_4 C hf hP hD hS (lv_sub hl [1, 0, 2] rfl) hE0 hE1
set_option maxHeartbeats 4000000 in
set_option maxRecDepth 100000 in
theorem kl_X10_unlike_L4 {h q_h_times : Nat} {m_h_before : Int32} {m_h_falls : Int32} {m_h_times : Nat → Int32} (C : cx p s m args meth c cX10_unlike 3 (some .int) RX10 D cy A) : ∀ (n : Nat) (w : Int32 × Int32) (z : Nat × (Int32 × Int32)) (H : Heap) (locs : List Loc) (ls : Array Slot), zp (f_X10_unlike_L4 m_h_times) n w = some z → va_P D vwCl [(h, .inr (10, [.ref q_h_times, .int m_h_before, .int m_h_falls])), (q_h_times, aI cy 256 m_h_times)] H → va_D A [(h, .inr (10, [.ref q_h_times, .int m_h_before, .int m_h_falls])), (q_h_times, aI cy 256 m_h_times)] → va_S A s.heap H locs → lv_has ls 3 [(0, .ref h), (1, .int w.1), (2, .int w.2)] → (∀ (H : Heap) (locs : List Loc) (ls : Array Slot), z.1 = 1 → va_P D vwCl [(h, .inr (10, [.ref q_h_times, .int m_h_before, .int m_h_falls])), (q_h_times, aI cy 256 m_h_times)] H → va_D A [(h, .inr (10, [.ref q_h_times, .int m_h_before, .int m_h_falls])), (q_h_times, aI cy 256 m_h_times)] → va_S A s.heap H locs → lv_has ls 3 [(1, .int z.2.1)] → W p l e ({ frames := 0, cells := 0, slots := 0, locals := 0 } : Room) s m args below meth c H locs 0 0 Q (F0 m 31 ls [])) → W p l e ({ frames := 0, cells := 0, slots := 0, locals := 0 } : Room) s m args below meth c H locs 0 0 Q (F0 m 4 ls []) := by
  intro n
  induction n with
  | zero => intro w z H locs ls hf; cases hf
  | succ n ih =>
    intro w z H locs ls hf hP hD hS hl hE1
    obtain ⟨w1, hw, hd⟩ := zp_s hf
    refine k_X10_unlike_L4 C hw hP hD hS hl (fun H locs ls h0 hP hD hS hl => ?_) (fun H locs ls h0 hP hD hS hl => ?_)
    · rcases hd with ⟨_, h⟩ | ⟨h, _⟩
      · exact ih _ _ _ _ _ h hP hD hS hl hE1
      · exact absurd h0 h
    · rcases hd with ⟨h, _⟩ | ⟨_, h⟩
      · exact absurd (h.symm.trans h0) (by decide)
      · subst h; exact hE1 _ _ _ h0 hP hD hS hl
def f_X10_unlike (m_h_times : Nat → Int32) : Option (Int32) :=
  zb (zp (f_X10_unlike_L4 m_h_times) zF ((0 : Int32), (0 : Int32))) fun z4 =>
  some z4.2.1
set_option maxHeartbeats 4000000 in
set_option maxRecDepth 100000 in
theorem k_X10_unlike {h q_h_times : Nat} {m_h_before : Int32} {m_h_falls : Int32} {m_h_times : Nat → Int32} {z : Int32} (C : cx p s m args meth c cX10_unlike 3 (some .int) RX10 D cy A) (hf : f_X10_unlike m_h_times = some z) (hP : va_P D vwCl [(h, .inr (10, [.ref q_h_times, .int m_h_before, .int m_h_falls])), (q_h_times, aI cy 256 m_h_times)] H) (hD : va_D A [(h, .inr (10, [.ref q_h_times, .int m_h_before, .int m_h_falls])), (q_h_times, aI cy 256 m_h_times)]) (hS : va_S A s.heap H locs) (hl : lv_has ls 3 [(0, .ref h)]) : W p l e ({ frames := 0, cells := 0, slots := 0, locals := 0 } : Room) s m args below meth c H locs 0 0 (MQ below (kqi D cy [(h, .inr (10, [.ref q_h_times, .int m_h_before, .int m_h_falls])), (q_h_times, aI cy 256 m_h_times)] z A) args s 0 0 A) (F0 m 0 ls []) := by
  obtain ⟨hx, hb, hr, hml, hown, hts, hlk, hK, hA, hN⟩ := id C
  unfold f_X10_unlike at hf
  refine lv_iconst (v := 0) hx hb dX10_unlike_0 (by decide) ?_
  refine lv_istore_n (lv' := [(1, .int (0 : Int32)), (0, .ref h)]) hx hb dX10_unlike_1 rfl hl (by decide) rfl (fun ls hl => ?_)
  refine lv_iconst (v := 0) hx hb dX10_unlike_2 (by decide) ?_
  refine lv_istore_n (lv' := [(2, .int (0 : Int32)), (1, .int (0 : Int32)), (0, .ref h)]) hx hb dX10_unlike_3 rfl hl (by decide) rfl (fun ls hl => ?_)
  obtain ⟨z4, hz4, hf⟩ := zb_of hf
  refine kl_X10_unlike_L4 C _ _ _ _ _ _ hz4 hP hD hS (lv_sub hl [2, 1, 0] rfl) (fun H locs ls h0 hP hD hS hl => ?_)
  refine lv_iload_n hx hb dX10_unlike_31 rfl (lv_at hl 0 rfl) ?_
  obtain rfl := Option.some.inj hf
  exact ret_i C hP hD hS dX10_unlike_32
set_option maxRecDepth 100000 in
theorem c_X10_unlike (l : Launch) (D : va_G) (cy : Nat → ClassId) (sz : Nat) (h q_h_times : Nat) (m_h_before : Int32) (m_h_falls : Int32) (m_h_times : Nat → Int32) {z : Int32} (hf : f_X10_unlike m_h_times = some z) : Met l yX10_unlike (.code yX10_unlike cX10_unlike 3 (some .int) :: tb) ({ frames := 0, cells := 0, slots := 0, locals := 0 } : Room) (kp D cy sz [.ref h] [(h, .inr (10, [.ref q_h_times, .int m_h_before, .int m_h_falls])), (q_h_times, aI cy 256 m_h_times)]) (kqi D cy [(h, .inr (10, [.ref q_h_times, .int m_h_before, .int m_h_falls])), (q_h_times, aI cy 256 m_h_times)] z (va_A [(h, .inr (10, [.ref q_h_times, .int m_h_before, .int m_h_falls])), (q_h_times, aI cy 256 m_h_times)] sz)) 0 0 (va_A [(h, .inr (10, [.ref q_h_times, .int m_h_before, .int m_h_falls])), (q_h_times, aI cy 256 m_h_times)] sz) :=
  met_of (fun A => kqi D cy [(h, .inr (10, [.ref q_h_times, .int m_h_before, .int m_h_falls])), (q_h_times, aI cy 256 m_h_times)] z A) (by decide +kernel) (Nat.le_of_ble_eq_true rfl) (fun p e s m below meth c A ls C hP hD hS hl => k_X10_unlike C hf hP hD hS hl)
theorem hd_X10_unlike : yX10_unlike.cls ≠ "java/lang/invoke/MethodHandle" ∧ yX10_unlike.cls ≠ "java/lang/invoke/VarHandle" ∧ (parseMethodDescriptor yX10_unlike.desc).map (fun d => d.parameters.length) = some 0 := by decide +kernel
def f_X6_isNothing (m_h_size : Int32) : Option (Int32) :=
  if m_h_size = (-4 : Int32) then
    some (1 : Int32)
  else
    some (0 : Int32)
set_option maxHeartbeats 4000000 in
set_option maxRecDepth 100000 in
theorem k_X6_isNothing {h q_h_cells : Nat} {m_h_lane : Int32} {m_h_size : Int32} {z : Int32} (C : cx p s m args meth c cX6_isNothing 1 (some .boolean) RX6 D cy A) (hf : f_X6_isNothing m_h_size = some z) (hP : va_P D vwCl [(h, .inr (6, [.ref q_h_cells, .int m_h_lane, .int m_h_size]))] H) (hD : va_D A [(h, .inr (6, [.ref q_h_cells, .int m_h_lane, .int m_h_size]))]) (hS : va_S A s.heap H locs) (hl : lv_has ls 1 [(0, .ref h)]) : W p l e ({ frames := 0, cells := 0, slots := 0, locals := 0 } : Room) s m args below meth c H locs 0 0 (MQ below (kqz D cy [(h, .inr (6, [.ref q_h_cells, .int m_h_lane, .int m_h_size]))] z A) args s 0 0 A) (F0 m 0 ls []) := by
  obtain ⟨hx, hb, hr, hml, hown, hts, hlk, hK, hA, hN⟩ := id C
  unfold f_X6_isNothing at hf
  refine lv_aload_n hx hb dX6_isNothing_0 rfl (lv_at hl 0 rfl) ?_
  refine va_get (D := D) (ci := 6) (v := .int m_h_size) (C := RX6) (T := TX6) (N := 3) hx hb hts ui_X6 hown hK hP 0 rfl rfl 2 (by decide) (hts _ fl_X6_19) (fun _ h9 => h9) rfl dX6_isNothing_1 ?_
  refine lv_bipush (v := -4) hx hb dX6_isNothing_4 (by decide) ?_
  refine lv_icmp_ne (tgt := 13) hx hb dX6_isNothing_6 (by decide) (fun c6 => ?_) (fun c6 => ?_)
  · have hf := zf c6 hf
    refine lv_iconst (v := 0) hx hb dX6_isNothing_13 (by decide) ?_
    obtain rfl := Option.some.inj hf
    exact ret_z (v := (0 : Int32)) C rfl hP hD hS dX6_isNothing_14
  · have hf := zt c6 hf
    refine lv_iconst (v := 1) hx hb dX6_isNothing_9 (by decide) ?_
    refine lv_goto (tgt := 14) hx hb dX6_isNothing_10 (by decide) ?_
    obtain rfl := Option.some.inj hf
    exact ret_z (v := (1 : Int32)) C rfl hP hD hS dX6_isNothing_14
set_option maxRecDepth 100000 in
theorem c_X6_isNothing (l : Launch) (D : va_G) (cy : Nat → ClassId) (sz : Nat) (h q_h_cells : Nat) (m_h_lane : Int32) (m_h_size : Int32) {z : Int32} (hf : f_X6_isNothing m_h_size = some z) : Met l yX6_isNothing (.code yX6_isNothing cX6_isNothing 1 (some .boolean) :: tb) ({ frames := 0, cells := 0, slots := 0, locals := 0 } : Room) (kp D cy sz [.ref h] [(h, .inr (6, [.ref q_h_cells, .int m_h_lane, .int m_h_size]))]) (kqz D cy [(h, .inr (6, [.ref q_h_cells, .int m_h_lane, .int m_h_size]))] z (va_A [(h, .inr (6, [.ref q_h_cells, .int m_h_lane, .int m_h_size]))] sz)) 0 0 (va_A [(h, .inr (6, [.ref q_h_cells, .int m_h_lane, .int m_h_size]))] sz) :=
  met_of (fun A => kqz D cy [(h, .inr (6, [.ref q_h_cells, .int m_h_lane, .int m_h_size]))] z A) (by decide +kernel) (Nat.le_of_ble_eq_true rfl) (fun p e s m below meth c A ls C hP hD hS hl => k_X6_isNothing C hf hP hD hS hl)
theorem hd_X6_isNothing : yX6_isNothing.cls ≠ "java/lang/invoke/MethodHandle" ∧ yX6_isNothing.cls ≠ "java/lang/invoke/VarHandle" ∧ (parseMethodDescriptor yX6_isNothing.desc).map (fun d => d.parameters.length) = some 0 := by decide +kernel
def f_X6_hasCell (v1 : Int32) (m_h_size : Int32) : Option (Int32) :=
  if v1 < 0 then
    some (0 : Int32)
  else
    if m_h_size ≤ v1 then
      some (0 : Int32)
    else
      if (64 : Int32) ≤ v1 then
        some (0 : Int32)
      else
        some (1 : Int32)
set_option maxHeartbeats 4000000 in
set_option maxRecDepth 100000 in
theorem k_X6_hasCell {h q_h_cells : Nat} {v1 : Int32} {m_h_lane : Int32} {m_h_size : Int32} {m_h_cells : Nat → Int32} {z : Int32} (C : cx p s m args meth c cX6_hasCell 2 (some .boolean) RX6 D cy A) (hf : f_X6_hasCell v1 m_h_size = some z) (hP : va_P D vwCl [(h, .inr (6, [.ref q_h_cells, .int m_h_lane, .int m_h_size])), (q_h_cells, aI cy 64 m_h_cells)] H) (hD : va_D A [(h, .inr (6, [.ref q_h_cells, .int m_h_lane, .int m_h_size])), (q_h_cells, aI cy 64 m_h_cells)]) (hS : va_S A s.heap H locs) (hl : lv_has ls 2 [(0, .ref h), (1, .int v1)]) : W p l e ({ frames := 0, cells := 0, slots := 0, locals := 0 } : Room) s m args below meth c H locs 0 0 (MQ below (kqz D cy [(h, .inr (6, [.ref q_h_cells, .int m_h_lane, .int m_h_size])), (q_h_cells, aI cy 64 m_h_cells)] z A) args s 0 0 A) (F0 m 0 ls []) := by
  obtain ⟨hx, hb, hr, hml, hown, hts, hlk, hK, hA, hN⟩ := id C
  unfold f_X6_hasCell at hf
  refine lv_iload_n hx hb dX6_hasCell_0 rfl (lv_at hl 1 rfl) ?_
  refine lv_if_lt (tgt := 25) hx hb dX6_hasCell_1 (by decide) (fun c1 => ?_) (fun c1 => ?_)
  · have hf := zt c1 hf
    refine lv_iconst (v := 0) hx hb dX6_hasCell_25 (by decide) ?_
    obtain rfl := Option.some.inj hf
    exact ret_z (v := (0 : Int32)) C rfl hP hD hS dX6_hasCell_26
  · have hf := zf c1 hf
    refine lv_iload_n hx hb dX6_hasCell_4 rfl (lv_at hl 1 rfl) ?_
    refine lv_aload_n hx hb dX6_hasCell_5 rfl (lv_at hl 0 rfl) ?_
    refine va_get (D := D) (ci := 6) (v := .int m_h_size) (C := RX6) (T := TX6) (N := 3) hx hb hts ui_X6 hown hK hP 0 rfl rfl 2 (by decide) (hts _ fl_X6_19) (fun _ h9 => h9) rfl dX6_hasCell_6 ?_
    refine lv_icmp_ge (tgt := 25) hx hb dX6_hasCell_9 (by decide) (fun c9 => ?_) (fun c9 => ?_)
    · have hf := zt c9 hf
      refine lv_iconst (v := 0) hx hb dX6_hasCell_25 (by decide) ?_
      obtain rfl := Option.some.inj hf
      exact ret_z (v := (0 : Int32)) C rfl hP hD hS dX6_hasCell_26
    · have hf := zf c9 hf
      refine lv_iload_n hx hb dX6_hasCell_12 rfl (lv_at hl 1 rfl) ?_
      refine lv_aload_n hx hb dX6_hasCell_13 rfl (lv_at hl 0 rfl) ?_
      refine va_get (D := D) (ci := 6) (v := .ref q_h_cells) (C := RX6) (T := TX6) (N := 3) hx hb hts ui_X6 hown hK hP 0 rfl rfl 0 (by decide) (hts _ fl_X6_11) (fun _ h9 => h9) rfl dX6_hasCell_14 ?_
      refine va_alen (v := (64 : Int32)) hx hb hK hP 1 1 rfl rfl rfl dX6_hasCell_17 ?_
      refine lv_icmp_ge (tgt := 25) hx hb dX6_hasCell_18 (by decide) (fun c18 => ?_) (fun c18 => ?_)
      · have hf := zt c18 hf
        refine lv_iconst (v := 0) hx hb dX6_hasCell_25 (by decide) ?_
        obtain rfl := Option.some.inj hf
        exact ret_z (v := (0 : Int32)) C rfl hP hD hS dX6_hasCell_26
      · have hf := zf c18 hf
        refine lv_iconst (v := 1) hx hb dX6_hasCell_21 (by decide) ?_
        refine lv_goto (tgt := 26) hx hb dX6_hasCell_22 (by decide) ?_
        obtain rfl := Option.some.inj hf
        exact ret_z (v := (1 : Int32)) C rfl hP hD hS dX6_hasCell_26
set_option maxRecDepth 100000 in
theorem c_X6_hasCell (l : Launch) (D : va_G) (cy : Nat → ClassId) (sz : Nat) (h q_h_cells : Nat) (v1 : Int32) (m_h_lane : Int32) (m_h_size : Int32) (m_h_cells : Nat → Int32) {z : Int32} (hf : f_X6_hasCell v1 m_h_size = some z) : Met l yX6_hasCell (.code yX6_hasCell cX6_hasCell 2 (some .boolean) :: tb) ({ frames := 0, cells := 0, slots := 0, locals := 0 } : Room) (kp D cy sz [.ref h, .int v1] [(h, .inr (6, [.ref q_h_cells, .int m_h_lane, .int m_h_size])), (q_h_cells, aI cy 64 m_h_cells)]) (kqz D cy [(h, .inr (6, [.ref q_h_cells, .int m_h_lane, .int m_h_size])), (q_h_cells, aI cy 64 m_h_cells)] z (va_A [(h, .inr (6, [.ref q_h_cells, .int m_h_lane, .int m_h_size])), (q_h_cells, aI cy 64 m_h_cells)] sz)) 0 0 (va_A [(h, .inr (6, [.ref q_h_cells, .int m_h_lane, .int m_h_size])), (q_h_cells, aI cy 64 m_h_cells)] sz) :=
  met_of (fun A => kqz D cy [(h, .inr (6, [.ref q_h_cells, .int m_h_lane, .int m_h_size])), (q_h_cells, aI cy 64 m_h_cells)] z A) (by decide +kernel) (Nat.le_of_ble_eq_true rfl) (fun p e s m below meth c A ls C hP hD hS hl => k_X6_hasCell C hf hP hD hS hl)
theorem hd_X6_hasCell : yX6_hasCell.cls ≠ "java/lang/invoke/MethodHandle" ∧ yX6_hasCell.cls ≠ "java/lang/invoke/VarHandle" ∧ (parseMethodDescriptor yX6_hasCell.desc).map (fun d => d.parameters.length) = some 1 := by decide +kernel
def f_X6_lowestBits (v1 : Int32) (m_h_lane : Int32) : Option (Int32) :=
  if m_h_lane = 0 then
    some (v1.toInt8.toInt32)
  else
    if m_h_lane = (1 : Int32) then
      some (v1.toInt16.toInt32)
    else
      some v1
set_option maxHeartbeats 4000000 in
set_option maxRecDepth 100000 in
theorem k_X6_lowestBits {h q_h_cells : Nat} {v1 : Int32} {m_h_lane : Int32} {m_h_size : Int32} {z : Int32} (C : cx p s m args meth c cX6_lowestBits 2 (some .int) RX6 D cy A) (hf : f_X6_lowestBits v1 m_h_lane = some z) (hP : va_P D vwCl [(h, .inr (6, [.ref q_h_cells, .int m_h_lane, .int m_h_size]))] H) (hD : va_D A [(h, .inr (6, [.ref q_h_cells, .int m_h_lane, .int m_h_size]))]) (hS : va_S A s.heap H locs) (hl : lv_has ls 2 [(0, .ref h), (1, .int v1)]) : W p l e ({ frames := 0, cells := 0, slots := 0, locals := 0 } : Room) s m args below meth c H locs 0 0 (MQ below (kqi D cy [(h, .inr (6, [.ref q_h_cells, .int m_h_lane, .int m_h_size]))] z A) args s 0 0 A) (F0 m 0 ls []) := by
  obtain ⟨hx, hb, hr, hml, hown, hts, hlk, hK, hA, hN⟩ := id C
  unfold f_X6_lowestBits at hf
  refine lv_aload_n hx hb dX6_lowestBits_0 rfl (lv_at hl 0 rfl) ?_
  refine va_get (D := D) (ci := 6) (v := .int m_h_lane) (C := RX6) (T := TX6) (N := 3) hx hb hts ui_X6 hown hK hP 0 rfl rfl 1 (by decide) (hts _ fl_X6_15) (fun _ h9 => h9) rfl dX6_lowestBits_1 ?_
  refine lv_if_ne (tgt := 10) hx hb dX6_lowestBits_4 (by decide) (fun c4 => ?_) (fun c4 => ?_)
  · have hf := zf c4 hf
    refine lv_aload_n hx hb dX6_lowestBits_10 rfl (lv_at hl 0 rfl) ?_
    refine va_get (D := D) (ci := 6) (v := .int m_h_lane) (C := RX6) (T := TX6) (N := 3) hx hb hts ui_X6 hown hK hP 0 rfl rfl 1 (by decide) (hts _ fl_X6_15) (fun _ h9 => h9) rfl dX6_lowestBits_11 ?_
    refine lv_iconst (v := 1) hx hb dX6_lowestBits_14 (by decide) ?_
    refine lv_icmp_ne (tgt := 23) hx hb dX6_lowestBits_15 (by decide) (fun c15 => ?_) (fun c15 => ?_)
    · have hf := zf c15 hf
      refine lv_iload_n hx hb dX6_lowestBits_23 rfl (lv_at hl 1 rfl) ?_
      obtain rfl := Option.some.inj hf
      exact ret_i C hP hD hS dX6_lowestBits_24
    · have hf := zt c15 hf
      refine lv_iload_n hx hb dX6_lowestBits_18 rfl (lv_at hl 1 rfl) ?_
      refine lv_i2s hx hb dX6_lowestBits_19 rfl ?_
      refine lv_goto (tgt := 24) hx hb dX6_lowestBits_20 (by decide) ?_
      obtain rfl := Option.some.inj hf
      exact ret_i C hP hD hS dX6_lowestBits_24
  · have hf := zt c4 hf
    refine lv_iload_n hx hb dX6_lowestBits_7 rfl (lv_at hl 1 rfl) ?_
    refine lv_i2b hx hb dX6_lowestBits_8 rfl ?_
    obtain rfl := Option.some.inj hf
    exact ret_i C hP hD hS dX6_lowestBits_9
set_option maxRecDepth 100000 in
theorem c_X6_lowestBits (l : Launch) (D : va_G) (cy : Nat → ClassId) (sz : Nat) (h q_h_cells : Nat) (v1 : Int32) (m_h_lane : Int32) (m_h_size : Int32) {z : Int32} (hf : f_X6_lowestBits v1 m_h_lane = some z) : Met l yX6_lowestBits (.code yX6_lowestBits cX6_lowestBits 2 (some .int) :: tb) ({ frames := 0, cells := 0, slots := 0, locals := 0 } : Room) (kp D cy sz [.ref h, .int v1] [(h, .inr (6, [.ref q_h_cells, .int m_h_lane, .int m_h_size]))]) (kqi D cy [(h, .inr (6, [.ref q_h_cells, .int m_h_lane, .int m_h_size]))] z (va_A [(h, .inr (6, [.ref q_h_cells, .int m_h_lane, .int m_h_size]))] sz)) 0 0 (va_A [(h, .inr (6, [.ref q_h_cells, .int m_h_lane, .int m_h_size]))] sz) :=
  met_of (fun A => kqi D cy [(h, .inr (6, [.ref q_h_cells, .int m_h_lane, .int m_h_size]))] z A) (by decide +kernel) (Nat.le_of_ble_eq_true rfl) (fun p e s m below meth c A ls C hP hD hS hl => k_X6_lowestBits C hf hP hD hS hl)
theorem hd_X6_lowestBits : yX6_lowestBits.cls ≠ "java/lang/invoke/MethodHandle" ∧ yX6_lowestBits.cls ≠ "java/lang/invoke/VarHandle" ∧ (parseMethodDescriptor yX6_lowestBits.desc).map (fun d => d.parameters.length) = some 1 := by decide +kernel
def f_X6_putCell (v1 : Int32) (v2 : Int32) (m_h_lane : Int32) (m_h_size : Int32) (m_h_cells : Nat → Int32) : Option ((Nat → Int32)) :=
  zb (f_X6_hasCell v1 m_h_size) fun z2 =>
  if z2 = 0 then
    some m_h_cells
  else
    zb (f_X6_lowestBits v2 m_h_lane) fun z15 =>
    zc v1 64 <|
    zl (upd m_h_cells v1.toNatClampNeg z15) fun a18 =>
    some a18
set_option maxHeartbeats 4000000 in
set_option maxRecDepth 100000 in
theorem k_X6_putCell {h q_h_cells : Nat} {v1 : Int32} {v2 : Int32} {m_h_lane : Int32} {m_h_size : Int32} {m_h_cells : Nat → Int32} {z : (Nat → Int32)} (C : cx p s m args meth c cX6_putCell 3 none RX6 D cy A) (hf : f_X6_putCell v1 v2 m_h_lane m_h_size m_h_cells = some z) (hP : va_P D vwCl [(h, .inr (6, [.ref q_h_cells, .int m_h_lane, .int m_h_size])), (q_h_cells, aI cy 64 m_h_cells)] H) (hD : va_D A [(h, .inr (6, [.ref q_h_cells, .int m_h_lane, .int m_h_size])), (q_h_cells, aI cy 64 m_h_cells)]) (hS : va_S A s.heap H locs) (hl : lv_has ls 3 [(0, .ref h), (1, .int v1), (2, .int v2)]) : W p l e ({ frames := 1, cells := 0, slots := 0, locals := 21 } : Room) s m args below meth c H locs 0 0 (MQ below (kqv D cy [(h, .inr (6, [.ref q_h_cells, .int m_h_lane, .int m_h_size])), (q_h_cells, aI cy 64 z)] A) args s 0 0 A) (F0 m 0 ls []) := by
  obtain ⟨hx, hb, hr, hml, hown, hts, hlk, hK, hA, hN⟩ := id C
  unfold f_X6_putCell at hf
  refine lv_aload_n hx hb dX6_putCell_0 rfl (lv_at hl 0 rfl) ?_
  refine lv_iload_n hx hb dX6_putCell_1 rfl (lv_at hl 1 rfl) ?_
  obtain ⟨z2, hz2, hf⟩ := zb_of hf
  refine goZ (wr := []) (ws' := [(h, .inr (6, [.ref q_h_cells, .int m_h_lane, .int m_h_size])), (q_h_cells, aI cy 64 m_h_cells)]) C (runV (n := 1) (As := [.int v1]) (rest := []) C (c_X6_hasCell l D cy H.size h q_h_cells v1 m_h_lane m_h_size m_h_cells hz2) ml_X6_28 im_X6_hasCell se_X6_hasCell ii_X6 cd_X6_hasCell hd_X6_hasCell rfl rfl ⟨Nat.le_of_ble_eq_true rfl, Nat.le_of_ble_eq_true rfl⟩ (hP.sub [0, 1] rfl) (hD.sub [0, 1] (by decide) rfl) hS rfl rfl rfl hl.1 rfl (Nat.le_of_ble_eq_true rfl) dX6_putCell_2) hP hD hS [0, 1] [] [0, 1] rfl rfl (by decide) (by decide) rfl (by decide) (fun H locs n2 hP hD hS => ?_)
  refine lv_if_eq (tgt := 19) hx hb dX6_putCell_5 (by decide) (fun c5 => ?_) (fun c5 => ?_)
  · have hf := zt c5 hf
    obtain rfl := Option.some.inj hf
    exact ret_v C hP hD hS dX6_putCell_19
  · have hf := zf c5 hf
    refine lv_aload_n hx hb dX6_putCell_8 rfl (lv_at hl 0 rfl) ?_
    refine va_get (D := D) (ci := 6) (v := .ref q_h_cells) (C := RX6) (T := TX6) (N := 3) hx hb hts ui_X6 hown hK hP 0 rfl rfl 0 (by decide) (hts _ fl_X6_11) (fun _ h9 => h9) rfl dX6_putCell_9 ?_
    refine lv_iload_n hx hb dX6_putCell_12 rfl (lv_at hl 1 rfl) ?_
    refine lv_aload_n hx hb dX6_putCell_13 rfl (lv_at hl 0 rfl) ?_
    refine lv_iload_n hx hb dX6_putCell_14 rfl (lv_at hl 2 rfl) ?_
    obtain ⟨z15, hz15, hf⟩ := zb_of hf
    refine goI (wr := [(q_h_cells, aI cy 64 m_h_cells)]) (ws' := [(h, .inr (6, [.ref q_h_cells, .int m_h_lane, .int m_h_size])), (q_h_cells, aI cy 64 m_h_cells)]) C (runV (n := 1) (As := [.int v2]) (rest := [.int v1, .ref q_h_cells]) C (c_X6_lowestBits l D cy H.size h q_h_cells v2 m_h_lane m_h_size hz15) ml_X6_32 im_X6_lowestBits se_X6_lowestBits ii_X6 cd_X6_lowestBits hd_X6_lowestBits rfl rfl ⟨Nat.le_of_ble_eq_true rfl, Nat.le_of_ble_eq_true rfl⟩ (hP.sub [0] rfl) (hD.sub [0] (by decide) rfl) hS rfl rfl rfl hl.1 rfl (Nat.le_of_ble_eq_true rfl) dX6_putCell_15) hP hD hS [0] [1] [1, 0] rfl rfl (by decide) (by decide) rfl (by decide) (fun H locs hP hD hS => ?_)
    obtain ⟨hin, hf⟩ := zc_of hf
    obtain ⟨a18, ea18⟩ : ∃ y : Nat → Int32, y = upd m_h_cells v1.toNatClampNeg z15 := ⟨_, rfl⟩
    have hf := zl_of hf a18 ea18
    refine va_iast hx hb hK hP hD hS 1 1 rfl rfl hin dX6_putCell_18 (fun H locs hP hD hS => ?_)
    rw [← ea18] at hP hD
    have hP : va_P D vwCl [(h, .inr (6, [.ref q_h_cells, .int m_h_lane, .int m_h_size])), (q_h_cells, aI cy 64 a18)] H := hP
    have hD : va_D A [(h, .inr (6, [.ref q_h_cells, .int m_h_lane, .int m_h_size])), (q_h_cells, aI cy 64 a18)] := hD
    obtain rfl := Option.some.inj hf
    exact ret_v C hP hD hS dX6_putCell_19
set_option maxRecDepth 100000 in
theorem c_X6_putCell (l : Launch) (D : va_G) (cy : Nat → ClassId) (sz : Nat) (h q_h_cells : Nat) (v1 : Int32) (v2 : Int32) (m_h_lane : Int32) (m_h_size : Int32) (m_h_cells : Nat → Int32) {z : (Nat → Int32)} (hf : f_X6_putCell v1 v2 m_h_lane m_h_size m_h_cells = some z) : Met l yX6_putCell (.code yX6_putCell cX6_putCell 3 none :: tb) ({ frames := 1, cells := 0, slots := 0, locals := 21 } : Room) (kp D cy sz [.ref h, .int v1, .int v2] [(h, .inr (6, [.ref q_h_cells, .int m_h_lane, .int m_h_size])), (q_h_cells, aI cy 64 m_h_cells)]) (kqv D cy [(h, .inr (6, [.ref q_h_cells, .int m_h_lane, .int m_h_size])), (q_h_cells, aI cy 64 z)] (va_A [(h, .inr (6, [.ref q_h_cells, .int m_h_lane, .int m_h_size])), (q_h_cells, aI cy 64 m_h_cells)] sz)) 0 0 (va_A [(h, .inr (6, [.ref q_h_cells, .int m_h_lane, .int m_h_size])), (q_h_cells, aI cy 64 m_h_cells)] sz) :=
  met_of (fun A => kqv D cy [(h, .inr (6, [.ref q_h_cells, .int m_h_lane, .int m_h_size])), (q_h_cells, aI cy 64 z)] A) (by decide +kernel) (Nat.le_of_ble_eq_true rfl) (fun p e s m below meth c A ls C hP hD hS hl => k_X6_putCell C hf hP hD hS hl)
theorem hd_X6_putCell : yX6_putCell.cls ≠ "java/lang/invoke/MethodHandle" ∧ yX6_putCell.cls ≠ "java/lang/invoke/VarHandle" ∧ (parseMethodDescriptor yX6_putCell.desc).map (fun d => d.parameters.length) = some 2 := by decide +kernel
def f_X6_cellAt (v1 : Int32) (m_h_size : Int32) (m_h_cells : Nat → Int32) : Option (Int32) :=
  zb (f_X6_hasCell v1 m_h_size) fun z2 =>
  if z2 = 0 then
    some (0 : Int32)
  else
    zc v1 64 <|
    some (m_h_cells v1.toNatClampNeg)
set_option maxHeartbeats 4000000 in
set_option maxRecDepth 100000 in
theorem k_X6_cellAt {h q_h_cells : Nat} {v1 : Int32} {m_h_lane : Int32} {m_h_size : Int32} {m_h_cells : Nat → Int32} {z : Int32} (C : cx p s m args meth c cX6_cellAt 2 (some .int) RX6 D cy A) (hf : f_X6_cellAt v1 m_h_size m_h_cells = some z) (hP : va_P D vwCl [(h, .inr (6, [.ref q_h_cells, .int m_h_lane, .int m_h_size])), (q_h_cells, aI cy 64 m_h_cells)] H) (hD : va_D A [(h, .inr (6, [.ref q_h_cells, .int m_h_lane, .int m_h_size])), (q_h_cells, aI cy 64 m_h_cells)]) (hS : va_S A s.heap H locs) (hl : lv_has ls 2 [(0, .ref h), (1, .int v1)]) : W p l e ({ frames := 1, cells := 0, slots := 0, locals := 21 } : Room) s m args below meth c H locs 0 0 (MQ below (kqi D cy [(h, .inr (6, [.ref q_h_cells, .int m_h_lane, .int m_h_size])), (q_h_cells, aI cy 64 m_h_cells)] z A) args s 0 0 A) (F0 m 0 ls []) := by
  obtain ⟨hx, hb, hr, hml, hown, hts, hlk, hK, hA, hN⟩ := id C
  unfold f_X6_cellAt at hf
  refine lv_aload_n hx hb dX6_cellAt_0 rfl (lv_at hl 0 rfl) ?_
  refine lv_iload_n hx hb dX6_cellAt_1 rfl (lv_at hl 1 rfl) ?_
  obtain ⟨z2, hz2, hf⟩ := zb_of hf
  refine goZ (wr := []) (ws' := [(h, .inr (6, [.ref q_h_cells, .int m_h_lane, .int m_h_size])), (q_h_cells, aI cy 64 m_h_cells)]) C (runV (n := 1) (As := [.int v1]) (rest := []) C (c_X6_hasCell l D cy H.size h q_h_cells v1 m_h_lane m_h_size m_h_cells hz2) ml_X6_28 im_X6_hasCell se_X6_hasCell ii_X6 cd_X6_hasCell hd_X6_hasCell rfl rfl ⟨Nat.le_of_ble_eq_true rfl, Nat.le_of_ble_eq_true rfl⟩ (hP.sub [0, 1] rfl) (hD.sub [0, 1] (by decide) rfl) hS rfl rfl rfl hl.1 rfl (Nat.le_of_ble_eq_true rfl) dX6_cellAt_2) hP hD hS [0, 1] [] [0, 1] rfl rfl (by decide) (by decide) rfl (by decide) (fun H locs n2 hP hD hS => ?_)
  refine lv_if_eq (tgt := 17) hx hb dX6_cellAt_5 (by decide) (fun c5 => ?_) (fun c5 => ?_)
  · have hf := zt c5 hf
    refine lv_iconst (v := 0) hx hb dX6_cellAt_17 (by decide) ?_
    obtain rfl := Option.some.inj hf
    exact ret_i C hP hD hS dX6_cellAt_18
  · have hf := zf c5 hf
    refine lv_aload_n hx hb dX6_cellAt_8 rfl (lv_at hl 0 rfl) ?_
    refine va_get (D := D) (ci := 6) (v := .ref q_h_cells) (C := RX6) (T := TX6) (N := 3) hx hb hts ui_X6 hown hK hP 0 rfl rfl 0 (by decide) (hts _ fl_X6_11) (fun _ h9 => h9) rfl dX6_cellAt_9 ?_
    refine lv_iload_n hx hb dX6_cellAt_12 rfl (lv_at hl 1 rfl) ?_
    obtain ⟨hin, hf⟩ := zc_of hf
    refine va_iald hx hb hK hP 1 1 rfl rfl hin dX6_cellAt_13 ?_
    refine lv_goto (tgt := 18) hx hb dX6_cellAt_14 (by decide) ?_
    obtain rfl := Option.some.inj hf
    exact ret_i C hP hD hS dX6_cellAt_18
set_option maxRecDepth 100000 in
theorem c_X6_cellAt (l : Launch) (D : va_G) (cy : Nat → ClassId) (sz : Nat) (h q_h_cells : Nat) (v1 : Int32) (m_h_lane : Int32) (m_h_size : Int32) (m_h_cells : Nat → Int32) {z : Int32} (hf : f_X6_cellAt v1 m_h_size m_h_cells = some z) : Met l yX6_cellAt (.code yX6_cellAt cX6_cellAt 2 (some .int) :: tb) ({ frames := 1, cells := 0, slots := 0, locals := 21 } : Room) (kp D cy sz [.ref h, .int v1] [(h, .inr (6, [.ref q_h_cells, .int m_h_lane, .int m_h_size])), (q_h_cells, aI cy 64 m_h_cells)]) (kqi D cy [(h, .inr (6, [.ref q_h_cells, .int m_h_lane, .int m_h_size])), (q_h_cells, aI cy 64 m_h_cells)] z (va_A [(h, .inr (6, [.ref q_h_cells, .int m_h_lane, .int m_h_size])), (q_h_cells, aI cy 64 m_h_cells)] sz)) 0 0 (va_A [(h, .inr (6, [.ref q_h_cells, .int m_h_lane, .int m_h_size])), (q_h_cells, aI cy 64 m_h_cells)] sz) :=
  met_of (fun A => kqi D cy [(h, .inr (6, [.ref q_h_cells, .int m_h_lane, .int m_h_size])), (q_h_cells, aI cy 64 m_h_cells)] z A) (by decide +kernel) (Nat.le_of_ble_eq_true rfl) (fun p e s m below meth c A ls C hP hD hS hl => k_X6_cellAt C hf hP hD hS hl)
theorem hd_X6_cellAt : yX6_cellAt.cls ≠ "java/lang/invoke/MethodHandle" ∧ yX6_cellAt.cls ≠ "java/lang/invoke/VarHandle" ∧ (parseMethodDescriptor yX6_cellAt.desc).map (fun d => d.parameters.length) = some 1 := by decide +kernel
def f_X6_renew (v1 : Int32) (v2 : Int32) (m_h_cells : Nat → Int32) : Option (Int32 × Int32 × (Nat → Int32)) :=
  zb (f_J7_fill_53178 (0 : Int32) m_h_cells 64) fun z15 =>
  some (v1, v2, z15)
set_option maxHeartbeats 4000000 in
set_option maxRecDepth 100000 in
theorem k_X6_renew {h q_h_cells : Nat} {v1 : Int32} {v2 : Int32} {m_h_lane : Int32} {m_h_size : Int32} {m_h_cells : Nat → Int32} {z : Int32 × Int32 × (Nat → Int32)} (C : cx p s m args meth c cX6_renew 3 none RX6 D cy A) (hf : f_X6_renew v1 v2 m_h_cells = some z) (hP : va_P D vwCl [(h, .inr (6, [.ref q_h_cells, .int m_h_lane, .int m_h_size])), (q_h_cells, aI cy 64 m_h_cells)] H) (hD : va_D A [(h, .inr (6, [.ref q_h_cells, .int m_h_lane, .int m_h_size])), (q_h_cells, aI cy 64 m_h_cells)]) (hS : va_S A s.heap H locs) (hl : lv_has ls 3 [(0, .ref h), (1, .int v1), (2, .int v2)]) : W p l e ({ frames := 1, cells := 0, slots := 0, locals := 23 } : Room) s m args below meth c H locs 0 0 (MQ below (kqv D cy [(h, .inr (6, [.ref q_h_cells, .int z.1, .int z.2.1])), (q_h_cells, aI cy 64 z.2.2)] A) args s 0 0 A) (F0 m 0 ls []) := by
  obtain ⟨hx, hb, hr, hml, hown, hts, hlk, hK, hA, hN⟩ := id C
  unfold f_X6_renew at hf
  refine lv_aload_n hx hb dX6_renew_0 rfl (lv_at hl 0 rfl) ?_
  refine lv_iload_n hx hb dX6_renew_1 rfl (lv_at hl 1 rfl) ?_
  refine va_put (D := D) (ci := 6) (v := .int v1) (ty := .int) (C := RX6) (T := TX6) (N := 3) hx hb hts ui_X6 tyX6 tyX6_ok nmX6 hown hK hP hD hS 0 rfl rfl 1 (by decide) (hts _ fl_X6_15) (fun _ h9 => h9) rfl rfl rfl rfl (Nat.le_of_ble_eq_true rfl) dX6_renew_2 (fun H locs hP hD hS => ?_)
  have hP : va_P D vwCl [(h, .inr (6, [.ref q_h_cells, .int v1, .int m_h_size])), (q_h_cells, aI cy 64 m_h_cells)] H := hP
  have hD : va_D A [(h, .inr (6, [.ref q_h_cells, .int v1, .int m_h_size])), (q_h_cells, aI cy 64 m_h_cells)] := hD
  refine lv_aload_n hx hb dX6_renew_5 rfl (lv_at hl 0 rfl) ?_
  refine lv_iload_n hx hb dX6_renew_6 rfl (lv_at hl 2 rfl) ?_
  refine va_put (D := D) (ci := 6) (v := .int v2) (ty := .int) (C := RX6) (T := TX6) (N := 3) hx hb hts ui_X6 tyX6 tyX6_ok nmX6 hown hK hP hD hS 0 rfl rfl 2 (by decide) (hts _ fl_X6_19) (fun _ h9 => h9) rfl rfl rfl rfl (Nat.le_of_ble_eq_true rfl) dX6_renew_7 (fun H locs hP hD hS => ?_)
  have hP : va_P D vwCl [(h, .inr (6, [.ref q_h_cells, .int v1, .int v2])), (q_h_cells, aI cy 64 m_h_cells)] H := hP
  have hD : va_D A [(h, .inr (6, [.ref q_h_cells, .int v1, .int v2])), (q_h_cells, aI cy 64 m_h_cells)] := hD
  refine lv_aload_n hx hb dX6_renew_10 rfl (lv_at hl 0 rfl) ?_
  refine va_get (D := D) (ci := 6) (v := .ref q_h_cells) (C := RX6) (T := TX6) (N := 3) hx hb hts ui_X6 hown hK hP 0 rfl rfl 0 (by decide) (hts _ fl_X6_11) (fun _ h9 => h9) rfl dX6_renew_11 ?_
  refine lv_iconst (v := 0) hx hb dX6_renew_14 (by decide) ?_
  obtain ⟨z15, hz15, hf⟩ := zb_of hf
  refine goV (wr := [(h, .inr (6, [.ref q_h_cells, .int v1, .int v2]))]) (ws' := [(h, .inr (6, [.ref q_h_cells, .int v1, .int v2])), (q_h_cells, aI cy 64 z15)]) C (runS (n := 2) (As := [.ref q_h_cells, .int (0 : Int32)]) (rest := []) C (c_J7_fill_53178 l D cy H.size q_h_cells (0 : Int32) m_h_cells 64 hz15) ml_X6_22 st_J7_fill_53178 ii_J7 cd_J7_fill_53178 hd_J7_fill_53178 rfl rfl ⟨Nat.le_of_ble_eq_true rfl, Nat.le_of_ble_eq_true rfl⟩ (hP.sub [1] rfl) (hD.sub [1] (by decide) rfl) hS rfl hl.1 rfl (Nat.le_of_ble_eq_true rfl) dX6_renew_15) hP hD hS [1] [0] [0, 1] rfl rfl (by decide) (by decide) rfl (by decide) (fun H locs hP hD hS => ?_)
  obtain rfl := Option.some.inj hf
  exact ret_v C hP hD hS dX6_renew_18
set_option maxRecDepth 100000 in
theorem c_X6_renew (l : Launch) (D : va_G) (cy : Nat → ClassId) (sz : Nat) (h q_h_cells : Nat) (v1 : Int32) (v2 : Int32) (m_h_lane : Int32) (m_h_size : Int32) (m_h_cells : Nat → Int32) {z : Int32 × Int32 × (Nat → Int32)} (hf : f_X6_renew v1 v2 m_h_cells = some z) : Met l yX6_renew (.code yX6_renew cX6_renew 3 none :: tb) ({ frames := 1, cells := 0, slots := 0, locals := 23 } : Room) (kp D cy sz [.ref h, .int v1, .int v2] [(h, .inr (6, [.ref q_h_cells, .int m_h_lane, .int m_h_size])), (q_h_cells, aI cy 64 m_h_cells)]) (kqv D cy [(h, .inr (6, [.ref q_h_cells, .int z.1, .int z.2.1])), (q_h_cells, aI cy 64 z.2.2)] (va_A [(h, .inr (6, [.ref q_h_cells, .int m_h_lane, .int m_h_size])), (q_h_cells, aI cy 64 m_h_cells)] sz)) 0 0 (va_A [(h, .inr (6, [.ref q_h_cells, .int m_h_lane, .int m_h_size])), (q_h_cells, aI cy 64 m_h_cells)] sz) :=
  met_of (fun A => kqv D cy [(h, .inr (6, [.ref q_h_cells, .int z.1, .int z.2.1])), (q_h_cells, aI cy 64 z.2.2)] A) (by decide +kernel) (Nat.le_of_ble_eq_true rfl) (fun p e s m below meth c A ls C hP hD hS hl => k_X6_renew C hf hP hD hS hl)
theorem hd_X6_renew : yX6_renew.cls ≠ "java/lang/invoke/MethodHandle" ∧ yX6_renew.cls ≠ "java/lang/invoke/VarHandle" ∧ (parseMethodDescriptor yX6_renew.desc).map (fun d => d.parameters.length) = some 2 := by decide +kernel
