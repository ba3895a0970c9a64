variable {p : Program} {l : Launch} {e : Env} {s : State} {m : MethodId} {args : Array Value} {below : List Frame} {meth : Method} {c : Code} {D : va_G} {cy : Nat → ClassId} {A : Nat → Prop} {H : Heap} {locs : List Loc} {ls : Array Slot} {Q : State → Prop}
def f_X0_belowNode (v1 : Int32) (m_h_below : Nat → Int32) : Option (Int32) :=
  if v1 < 0 then
    some (0 : Int32)
  else
    if (17 : Int32) ≤ v1 then
      some (0 : Int32)
    else
      zc v1 17 <|
      some (m_h_below v1.toNatClampNeg)
set_option maxHeartbeats 4000000 in
set_option maxRecDepth 100000 in
theorem k_X0_belowNode {h q_h_rules q_h_stuck q_h_below : Nat} {v1 : Int32} {m_h_size : Int32} {m_h_below : Nat → Int32} {z : Int32} (C : cx p s m args meth c cX0_belowNode 2 (some .int) RX0 D cy A) (hf : f_X0_belowNode v1 m_h_below = some z) (hP : va_P D vwCl [(h, .inr (0, [.ref q_h_rules, .ref q_h_stuck, .ref q_h_below, .int m_h_size])), (q_h_below, aI cy 17 m_h_below)] H) (hD : va_D A [(h, .inr (0, [.ref q_h_rules, .ref q_h_stuck, .ref q_h_below, .int m_h_size])), (q_h_below, aI cy 17 m_h_below)]) (hS : va_S A s.heap H locs) (hl : lv_has ls 2 [(0, .ref h), (1, .int v1)]) : W p l e ({ frames := 0, cells := 0, slots := 0, locals := 0 } : Room) s m args below meth c H locs 0 0 (MQ below (kqi D cy [(h, .inr (0, [.ref q_h_rules, .ref q_h_stuck, .ref q_h_below, .int m_h_size])), (q_h_below, aI cy 17 m_h_below)] z A) args s 0 0 A) (F0 m 0 ls []) := by
  obtain ⟨hx, hb, hr, hml, hown, hts, hlk, hK, hA, hN⟩ := id C
  unfold f_X0_belowNode at hf
  refine lv_iload_n hx hb dX0_belowNode_0 rfl (lv_at hl 1 rfl) ?_
  refine lv_if_lt (tgt := 22) hx hb dX0_belowNode_1 (by decide) (fun c1 => ?_) (fun c1 => ?_)
  · have hf := zt c1 hf
    refine lv_iconst (v := 0) hx hb dX0_belowNode_22 (by decide) ?_
    obtain rfl := Option.some.inj hf
    exact ret_i C hP hD hS dX0_belowNode_23
  · have hf := zf c1 hf
    refine lv_iload_n hx hb dX0_belowNode_4 rfl (lv_at hl 1 rfl) ?_
    refine lv_aload_n hx hb dX0_belowNode_5 rfl (lv_at hl 0 rfl) ?_
    refine va_get (D := D) (ci := 0) (v := .ref q_h_below) (C := RX0) (T := TX0) (N := 4) hx hb hts ui_X0 hown hK hP 0 rfl rfl 2 (by decide) (hts _ fl_X0_17) (fun _ h9 => h9) rfl dX0_belowNode_6 ?_
    refine va_alen (v := (17 : Int32)) hx hb hK hP 1 1 rfl rfl rfl dX0_belowNode_9 ?_
    refine lv_icmp_ge (tgt := 22) hx hb dX0_belowNode_10 (by decide) (fun c10 => ?_) (fun c10 => ?_)
    · have hf := zt c10 hf
      refine lv_iconst (v := 0) hx hb dX0_belowNode_22 (by decide) ?_
      obtain rfl := Option.some.inj hf
      exact ret_i C hP hD hS dX0_belowNode_23
    · have hf := zf c10 hf
      refine lv_aload_n hx hb dX0_belowNode_13 rfl (lv_at hl 0 rfl) ?_
      refine va_get (D := D) (ci := 0) (v := .ref q_h_below) (C := RX0) (T := TX0) (N := 4) hx hb hts ui_X0 hown hK hP 0 rfl rfl 2 (by decide) (hts _ fl_X0_17) (fun _ h9 => h9) rfl dX0_belowNode_14 ?_
      refine lv_iload_n hx hb dX0_belowNode_17 rfl (lv_at hl 1 rfl) ?_
      obtain ⟨hin, hf⟩ := zc_of hf
      refine va_iald hx hb hK hP 1 1 rfl rfl hin dX0_belowNode_18 ?_
      refine lv_goto (tgt := 23) hx hb dX0_belowNode_19 (by decide) ?_
      obtain rfl := Option.some.inj hf
      exact ret_i C hP hD hS dX0_belowNode_23
set_option maxRecDepth 100000 in
theorem c_X0_belowNode (l : Launch) (D : va_G) (cy : Nat → ClassId) (sz : Nat) (h q_h_rules q_h_stuck q_h_below : Nat) (v1 : Int32) (m_h_size : Int32) (m_h_below : Nat → Int32) {z : Int32} (hf : f_X0_belowNode v1 m_h_below = some z) : Met l yX0_belowNode (.code yX0_belowNode cX0_belowNode 2 (some .int) :: tb) ({ frames := 0, cells := 0, slots := 0, locals := 0 } : Room) (kp D cy sz [.ref h, .int v1] [(h, .inr (0, [.ref q_h_rules, .ref q_h_stuck, .ref q_h_below, .int m_h_size])), (q_h_below, aI cy 17 m_h_below)]) (kqi D cy [(h, .inr (0, [.ref q_h_rules, .ref q_h_stuck, .ref q_h_below, .int m_h_size])), (q_h_below, aI cy 17 m_h_below)] z (va_A [(h, .inr (0, [.ref q_h_rules, .ref q_h_stuck, .ref q_h_below, .int m_h_size])), (q_h_below, aI cy 17 m_h_below)] sz)) 0 0 (va_A [(h, .inr (0, [.ref q_h_rules, .ref q_h_stuck, .ref q_h_below, .int m_h_size])), (q_h_below, aI cy 17 m_h_below)] sz) :=
  met_of (fun A => kqi D cy [(h, .inr (0, [.ref q_h_rules, .ref q_h_stuck, .ref q_h_below, .int m_h_size])), (q_h_below, aI cy 17 m_h_below)] z A) (by decide +kernel) (Nat.le_of_ble_eq_true rfl) (fun p e s m below meth c A ls C hP hD hS hl => k_X0_belowNode C hf hP hD hS hl)
theorem hd_X0_belowNode : yX0_belowNode.cls ≠ "java/lang/invoke/MethodHandle" ∧ yX0_belowNode.cls ≠ "java/lang/invoke/VarHandle" ∧ (parseMethodDescriptor yX0_belowNode.desc).map (fun d => d.parameters.length) = some 1 := by decide +kernel
def f_X0_bubbles (v0 : Int32) : Option (Int32) :=
  zb (f_J6_bitCount_0f7a4 ((v0 ^^^ (-1 : Int32)) &&& (v0 >>> ((1 : Int32) &&& 31)))) fun z7 =>
  some z7
set_option maxHeartbeats 4000000 in
set_option maxRecDepth 100000 in
theorem k_X0_bubbles {v0 : Int32} {z : Int32} (C : cx p s m args meth c cX0_bubbles 1 (some .int) RX0 D cy A) (hf : f_X0_bubbles v0 = some z) (hP : va_P D vwCl [] H) (hD : va_D A []) (hS : va_S A s.heap H locs) (hl : lv_has ls 1 [(0, .int v0)]) : W p l e ({ frames := 1, cells := 0, slots := 0, locals := 20 } : Room) s m args below meth c H locs 0 0 (MQ below (kqi D cy [] z A) args s 0 0 A) (F0 m 0 ls []) := by
  obtain ⟨hx, hb, hr, hml, hown, hts, hlk, hK, hA, hN⟩ := id C
  unfold f_X0_bubbles at hf
  refine lv_iload_n hx hb dX0_bubbles_0 rfl (lv_at hl 0 rfl) ?_
  refine lv_iconst (v := -1) hx hb dX0_bubbles_1 (by decide) ?_
  refine lv_ixor hx hb dX0_bubbles_2 ?_
  refine lv_iload_n hx hb dX0_bubbles_3 rfl (lv_at hl 0 rfl) ?_
  refine lv_iconst (v := 1) hx hb dX0_bubbles_4 (by decide) ?_
  refine lv_ishr hx hb dX0_bubbles_5 ?_
  refine lv_iand hx hb dX0_bubbles_6 ?_
  obtain ⟨z7, hz7, hf⟩ := zb_of hf
  refine goI (wr := []) (ws' := []) C (runS (n := 1) (As := [.int ((v0 ^^^ (-1 : Int32)) &&& (v0 >>> ((1 : Int32) &&& 31)))]) (rest := []) C (c_J6_bitCount_0f7a4 l D cy H.size ((v0 ^^^ (-1 : Int32)) &&& (v0 >>> ((1 : Int32) &&& 31))) hz7) ml_X0_55 st_J6_bitCount_0f7a4 ii_J6 cd_J6_bitCount_0f7a4 hd_J6_bitCount_0f7a4 rfl rfl ⟨Nat.le_of_ble_eq_true rfl, Nat.le_of_ble_eq_true rfl⟩ (hP.sub [] rfl) (hD.sub [] (by decide) rfl) hS rfl hl.1 rfl (Nat.le_of_ble_eq_true rfl) dX0_bubbles_7) hP hD hS [] [] [] rfl rfl (by decide) (by decide) rfl (by decide) (fun H locs hP hD hS => ?_)
  obtain rfl := Option.some.inj hf
  exact ret_i C hP hD hS dX0_bubbles_10
set_option maxRecDepth 100000 in
theorem c_X0_bubbles (l : Launch) (D : va_G) (cy : Nat → ClassId) (sz : Nat) (v0 : Int32) {z : Int32} (hf : f_X0_bubbles v0 = some z) : Met l yX0_bubbles (.code yX0_bubbles cX0_bubbles 1 (some .int) :: tb) ({ frames := 1, cells := 0, slots := 0, locals := 20 } : Room) (kp D cy sz [.int v0] []) (kqi D cy [] z (va_A [] sz)) 0 0 (va_A [] sz) :=
  met_of (fun A => kqi D cy [] z A) (by decide +kernel) (Nat.le_of_ble_eq_true rfl) (fun p e s m below meth c A ls C hP hD hS hl => k_X0_bubbles C hf hP hD hS hl)
theorem hd_X0_bubbles : yX0_bubbles.cls ≠ "java/lang/invoke/MethodHandle" ∧ yX0_bubbles.cls ≠ "java/lang/invoke/VarHandle" ∧ (parseMethodDescriptor yX0_bubbles.desc).map (fun d => d.parameters.length) = some 1 := by decide +kernel
def f_X0_edge (v0 : Int32) : Option (Int32) :=
  zb (f_J6_bitCount_0f7a4 (v0 &&& ((v0 + (1 : Int32)) ^^^ (-1 : Int32)))) fun z7 =>
  some z7
set_option maxHeartbeats 4000000 in
set_option maxRecDepth 100000 in
theorem k_X0_edge {v0 : Int32} {z : Int32} (C : cx p s m args meth c cX0_edge 1 (some .int) RX0 D cy A) (hf : f_X0_edge v0 = some z) (hP : va_P D vwCl [] H) (hD : va_D A []) (hS : va_S A s.heap H locs) (hl : lv_has ls 1 [(0, .int v0)]) : W p l e ({ frames := 1, cells := 0, slots := 0, locals := 20 } : Room) s m args below meth c H locs 0 0 (MQ below (kqi D cy [] z A) args s 0 0 A) (F0 m 0 ls []) := by
  obtain ⟨hx, hb, hr, hml, hown, hts, hlk, hK, hA, hN⟩ := id C
  unfold f_X0_edge at hf
  refine lv_iload_n hx hb dX0_edge_0 rfl (lv_at hl 0 rfl) ?_
  refine lv_iload_n hx hb dX0_edge_1 rfl (lv_at hl 0 rfl) ?_
  refine lv_iconst (v := 1) hx hb dX0_edge_2 (by decide) ?_
  refine lv_iadd hx hb dX0_edge_3 ?_
  refine lv_iconst (v := -1) hx hb dX0_edge_4 (by decide) ?_
  refine lv_ixor hx hb dX0_edge_5 ?_
  refine lv_iand hx hb dX0_edge_6 ?_
  obtain ⟨z7, hz7, hf⟩ := zb_of hf
  refine goI (wr := []) (ws' := []) C (runS (n := 1) (As := [.int (v0 &&& ((v0 + (1 : Int32)) ^^^ (-1 : Int32)))]) (rest := []) C (c_J6_bitCount_0f7a4 l D cy H.size (v0 &&& ((v0 + (1 : Int32)) ^^^ (-1 : Int32))) hz7) ml_X0_55 st_J6_bitCount_0f7a4 ii_J6 cd_J6_bitCount_0f7a4 hd_J6_bitCount_0f7a4 rfl rfl ⟨Nat.le_of_ble_eq_true rfl, Nat.le_of_ble_eq_true rfl⟩ (hP.sub [] rfl) (hD.sub [] (by decide) rfl) hS rfl hl.1 rfl (Nat.le_of_ble_eq_true rfl) dX0_edge_7) hP hD hS [] [] [] rfl rfl (by decide) (by decide) rfl (by decide) (fun H locs hP hD hS => ?_)
  obtain rfl := Option.some.inj hf
  exact ret_i C hP hD hS dX0_edge_10
set_option maxRecDepth 100000 in
theorem c_X0_edge (l : Launch) (D : va_G) (cy : Nat → ClassId) (sz : Nat) (v0 : Int32) {z : Int32} (hf : f_X0_edge v0 = some z) : Met l yX0_edge (.code yX0_edge cX0_edge 1 (some .int) :: tb) ({ frames := 1, cells := 0, slots := 0, locals := 20 } : Room) (kp D cy sz [.int v0] []) (kqi D cy [] z (va_A [] sz)) 0 0 (va_A [] sz) :=
  met_of (fun A => kqi D cy [] z A) (by decide +kernel) (Nat.le_of_ble_eq_true rfl) (fun p e s m below meth c A ls C hP hD hS hl => k_X0_edge C hf hP hD hS hl)
theorem hd_X0_edge : yX0_edge.cls ≠ "java/lang/invoke/MethodHandle" ∧ yX0_edge.cls ≠ "java/lang/invoke/VarHandle" ∧ (parseMethodDescriptor yX0_edge.desc).map (fun d => d.parameters.length) = some 1 := by decide +kernel
def f_X0_isComparer (v1 : Int32) : Option (Int32) :=
  if v1 < (1 : Int32) then
    some (0 : Int32)
  else
    if (16 : Int32) ≤ v1 then
      some (0 : Int32)
    else
      some (1 : Int32)
set_option maxHeartbeats 4000000 in
set_option maxRecDepth 100000 in
theorem k_X0_isComparer {h q_h_rules q_h_stuck q_h_below : Nat} {v1 : Int32} {m_h_size : Int32} {m_h_stuck : Nat → Int32} {z : Int32} (C : cx p s m args meth c cX0_isComparer 2 (some .boolean) RX0 D cy A) (hf : f_X0_isComparer v1 = some z) (hP : va_P D vwCl [(h, .inr (0, [.ref q_h_rules, .ref q_h_stuck, .ref q_h_below, .int m_h_size])), (q_h_stuck, aI cy 16 m_h_stuck)] H) (hD : va_D A [(h, .inr (0, [.ref q_h_rules, .ref q_h_stuck, .ref q_h_below, .int m_h_size])), (q_h_stuck, aI cy 16 m_h_stuck)]) (hS : va_S A s.heap H locs) (hl : lv_has ls 2 [(0, .ref h), (1, .int v1)]) : W p l e ({ frames := 0, cells := 0, slots := 0, locals := 0 } : Room) s m args below meth c H locs 0 0 (MQ below (kqz D cy [(h, .inr (0, [.ref q_h_rules, .ref q_h_stuck, .ref q_h_below, .int m_h_size])), (q_h_stuck, aI cy 16 m_h_stuck)] z A) args s 0 0 A) (F0 m 0 ls []) := by
  obtain ⟨hx, hb, hr, hml, hown, hts, hlk, hK, hA, hN⟩ := id C
  unfold f_X0_isComparer at hf
  refine lv_iload_n hx hb dX0_isComparer_0 rfl (lv_at hl 1 rfl) ?_
  refine lv_iconst (v := 1) hx hb dX0_isComparer_1 (by decide) ?_
  refine lv_icmp_lt (tgt := 18) hx hb dX0_isComparer_2 (by decide) (fun c2 => ?_) (fun c2 => ?_)
  · have hf := zt c2 hf
    refine lv_iconst (v := 0) hx hb dX0_isComparer_18 (by decide) ?_
    obtain rfl := Option.some.inj hf
    exact ret_z (v := (0 : Int32)) C rfl hP hD hS dX0_isComparer_19
  · have hf := zf c2 hf
    refine lv_iload_n hx hb dX0_isComparer_5 rfl (lv_at hl 1 rfl) ?_
    refine lv_aload_n hx hb dX0_isComparer_6 rfl (lv_at hl 0 rfl) ?_
    refine va_get (D := D) (ci := 0) (v := .ref q_h_stuck) (C := RX0) (T := TX0) (N := 4) hx hb hts ui_X0 hown hK hP 0 rfl rfl 1 (by decide) (hts _ fl_X0_11) (fun _ h9 => h9) rfl dX0_isComparer_7 ?_
    refine va_alen (v := (16 : Int32)) hx hb hK hP 1 1 rfl rfl rfl dX0_isComparer_10 ?_
    refine lv_icmp_ge (tgt := 18) hx hb dX0_isComparer_11 (by decide) (fun c11 => ?_) (fun c11 => ?_)
    · have hf := zt c11 hf
      refine lv_iconst (v := 0) hx hb dX0_isComparer_18 (by decide) ?_
      obtain rfl := Option.some.inj hf
      exact ret_z (v := (0 : Int32)) C rfl hP hD hS dX0_isComparer_19
    · have hf := zf c11 hf
      refine lv_iconst (v := 1) hx hb dX0_isComparer_14 (by decide) ?_
      refine lv_goto (tgt := 19) hx hb dX0_isComparer_15 (by decide) ?_
      obtain rfl := Option.some.inj hf
      exact ret_z (v := (1 : Int32)) C rfl hP hD hS dX0_isComparer_19
set_option maxRecDepth 100000 in
theorem c_X0_isComparer (l : Launch) (D : va_G) (cy : Nat → ClassId) (sz : Nat) (h q_h_rules q_h_stuck q_h_below : Nat) (v1 : Int32) (m_h_size : Int32) (m_h_stuck : Nat → Int32) {z : Int32} (hf : f_X0_isComparer v1 = some z) : Met l yX0_isComparer (.code yX0_isComparer cX0_isComparer 2 (some .boolean) :: tb) ({ frames := 0, cells := 0, slots := 0, locals := 0 } : Room) (kp D cy sz [.ref h, .int v1] [(h, .inr (0, [.ref q_h_rules, .ref q_h_stuck, .ref q_h_below, .int m_h_size])), (q_h_stuck, aI cy 16 m_h_stuck)]) (kqz D cy [(h, .inr (0, [.ref q_h_rules, .ref q_h_stuck, .ref q_h_below, .int m_h_size])), (q_h_stuck, aI cy 16 m_h_stuck)] z (va_A [(h, .inr (0, [.ref q_h_rules, .ref q_h_stuck, .ref q_h_below, .int m_h_size])), (q_h_stuck, aI cy 16 m_h_stuck)] sz)) 0 0 (va_A [(h, .inr (0, [.ref q_h_rules, .ref q_h_stuck, .ref q_h_below, .int m_h_size])), (q_h_stuck, aI cy 16 m_h_stuck)] sz) :=
  met_of (fun A => kqz D cy [(h, .inr (0, [.ref q_h_rules, .ref q_h_stuck, .ref q_h_below, .int m_h_size])), (q_h_stuck, aI cy 16 m_h_stuck)] z A) (by decide +kernel) (Nat.le_of_ble_eq_true rfl) (fun p e s m below meth c A ls C hP hD hS hl => k_X0_isComparer C hf hP hD hS hl)
theorem hd_X0_isComparer : yX0_isComparer.cls ≠ "java/lang/invoke/MethodHandle" ∧ yX0_isComparer.cls ≠ "java/lang/invoke/VarHandle" ∧ (parseMethodDescriptor yX0_isComparer.desc).map (fun d => d.parameters.length) = some 1 := by decide +kernel
def f_X0_isSize (v0 : Int32) : Option (Int32) :=
  if v0 < (2 : Int32) then
    some (0 : Int32)
  else
    if (4 : Int32) < v0 then
      some (0 : Int32)
    else
      some (1 : Int32)
set_option maxHeartbeats 4000000 in
set_option maxRecDepth 100000 in
theorem k_X0_isSize {v0 : Int32} {z : Int32} (C : cx p s m args meth c cX0_isSize 1 (some .boolean) RX0 D cy A) (hf : f_X0_isSize v0 = some z) (hP : va_P D vwCl [] H) (hD : va_D A []) (hS : va_S A s.heap H locs) (hl : lv_has ls 1 [(0, .int v0)]) : W p l e ({ frames := 0, cells := 0, slots := 0, locals := 0 } : Room) s m args below meth c H locs 0 0 (MQ below (kqz D cy [] z A) args s 0 0 A) (F0 m 0 ls []) := by
  obtain ⟨hx, hb, hr, hml, hown, hts, hlk, hK, hA, hN⟩ := id C
  unfold f_X0_isSize at hf
  refine lv_iload_n hx hb dX0_isSize_0 rfl (lv_at hl 0 rfl) ?_
  refine lv_iconst (v := 2) hx hb dX0_isSize_1 (by decide) ?_
  refine lv_icmp_lt (tgt := 14) hx hb dX0_isSize_2 (by decide) (fun c2 => ?_) (fun c2 => ?_)
  · have hf := zt c2 hf
    refine lv_iconst (v := 0) hx hb dX0_isSize_14 (by decide) ?_
    obtain rfl := Option.some.inj hf
    exact ret_z (v := (0 : Int32)) C rfl hP hD hS dX0_isSize_15
  · have hf := zf c2 hf
    refine lv_iload_n hx hb dX0_isSize_5 rfl (lv_at hl 0 rfl) ?_
    refine lv_iconst (v := 4) hx hb dX0_isSize_6 (by decide) ?_
    refine lv_icmp_gt (tgt := 14) hx hb dX0_isSize_7 (by decide) (fun c7 => ?_) (fun c7 => ?_)
    · have hf := zt c7 hf
      refine lv_iconst (v := 0) hx hb dX0_isSize_14 (by decide) ?_
      obtain rfl := Option.some.inj hf
      exact ret_z (v := (0 : Int32)) C rfl hP hD hS dX0_isSize_15
    · have hf := zf c7 hf
      refine lv_iconst (v := 1) hx hb dX0_isSize_10 (by decide) ?_
      refine lv_goto (tgt := 15) hx hb dX0_isSize_11 (by decide) ?_
      obtain rfl := Option.some.inj hf
      exact ret_z (v := (1 : Int32)) C rfl hP hD hS dX0_isSize_15
set_option maxRecDepth 100000 in
theorem c_X0_isSize (l : Launch) (D : va_G) (cy : Nat → ClassId) (sz : Nat) (v0 : Int32) {z : Int32} (hf : f_X0_isSize v0 = some z) : Met l yX0_isSize (.code yX0_isSize cX0_isSize 1 (some .boolean) :: tb) ({ frames := 0, cells := 0, slots := 0, locals := 0 } : Room) (kp D cy sz [.int v0] []) (kqz D cy [] z (va_A [] sz)) 0 0 (va_A [] sz) :=
  met_of (fun A => kqz D cy [] z A) (by decide +kernel) (Nat.le_of_ble_eq_true rfl) (fun p e s m below meth c A ls C hP hD hS hl => k_X0_isSize C hf hP hD hS hl)
theorem hd_X0_isSize : yX0_isSize.cls ≠ "java/lang/invoke/MethodHandle" ∧ yX0_isSize.cls ≠ "java/lang/invoke/VarHandle" ∧ (parseMethodDescriptor yX0_isSize.desc).map (fun d => d.parameters.length) = some 1 := by decide +kernel
def f_X11_dividedUp (v0 : Int32) (v1 : Int32) : Option (Int32) :=
  if 0 < v1 then
    zn v1 <|
    some (((v0 + v1) - (1 : Int32)) / v1)
  else
    some (0 : Int32)
set_option maxHeartbeats 4000000 in
set_option maxRecDepth 100000 in
theorem k_X11_dividedUp {v0 : Int32} {v1 : Int32} {z : Int32} (C : cx p s m args meth c cX11_dividedUp 2 (some .int) RX11 D cy A) (hf : f_X11_dividedUp v0 v1 = some z) (hP : va_P D vwCl [] H) (hD : va_D A []) (hS : va_S A s.heap H locs) (hl : lv_has ls 2 [(0, .int v0), (1, .int v1)]) : W p l e ({ frames := 0, cells := 0, slots := 0, locals := 0 } : Room) s m args below meth c H locs 0 0 (MQ below (kqi D cy [] z A) args s 0 0 A) (F0 m 0 ls []) := by
  obtain ⟨hx, hb, hr, hml, hown, hts, hlk, hK, hA, hN⟩ := id C
  unfold f_X11_dividedUp at hf
  refine lv_iload_n hx hb dX11_dividedUp_0 rfl (lv_at hl 1 rfl) ?_
  refine lv_if_gt (tgt := 8) hx hb dX11_dividedUp_1 (by decide) (fun c1 => ?_) (fun c1 => ?_)
  · have hf := zt c1 hf
    refine lv_iload_n hx hb dX11_dividedUp_8 rfl (lv_at hl 0 rfl) ?_
    refine lv_iload_n hx hb dX11_dividedUp_9 rfl (lv_at hl 1 rfl) ?_
    refine lv_iadd hx hb dX11_dividedUp_10 ?_
    refine lv_iconst (v := 1) hx hb dX11_dividedUp_11 (by decide) ?_
    refine lv_isub hx hb dX11_dividedUp_12 ?_
    refine lv_iload_n hx hb dX11_dividedUp_13 rfl (lv_at hl 1 rfl) ?_
    obtain ⟨hne, hf⟩ := zn_of hf
    refine lv_idiv hx hb dX11_dividedUp_14 hne ?_
    obtain rfl := Option.some.inj hf
    exact ret_i C hP hD hS dX11_dividedUp_15
  · have hf := zf c1 hf
    refine lv_iconst (v := 0) hx hb dX11_dividedUp_4 (by decide) ?_
    refine lv_goto (tgt := 15) hx hb dX11_dividedUp_5 (by decide) ?_
    obtain rfl := Option.some.inj hf
    exact ret_i C hP hD hS dX11_dividedUp_15
set_option maxRecDepth 100000 in
theorem c_X11_dividedUp (l : Launch) (D : va_G) (cy : Nat → ClassId) (sz : Nat) (v0 : Int32) (v1 : Int32) {z : Int32} (hf : f_X11_dividedUp v0 v1 = some z) : Met l yX11_dividedUp (.code yX11_dividedUp cX11_dividedUp 2 (some .int) :: tb) ({ frames := 0, cells := 0, slots := 0, locals := 0 } : Room) (kp D cy sz [.int v0, .int v1] []) (kqi D cy [] z (va_A [] sz)) 0 0 (va_A [] sz) :=
  met_of (fun A => kqi D cy [] z A) (by decide +kernel) (Nat.le_of_ble_eq_true rfl) (fun p e s m below meth c A ls C hP hD hS hl => k_X11_dividedUp C hf hP hD hS hl)
theorem hd_X11_dividedUp : yX11_dividedUp.cls ≠ "java/lang/invoke/MethodHandle" ∧ yX11_dividedUp.cls ≠ "java/lang/invoke/VarHandle" ∧ (parseMethodDescriptor yX11_dividedUp.desc).map (fun d => d.parameters.length) = some 2 := by decide +kernel
def f_X0_leastVolt (v1 : Int32) (m_h_size : Int32) (m_h_rules_ref : Int32) (m_h_below : Nat → Int32) : Option (Int32) :=
  zb (f_X0_belowNode v1 m_h_below) fun z9 =>
  zb (f_X0_belowNode m_h_size m_h_below) fun z18 =>
  zb (f_X11_dividedUp (m_h_rules_ref * z9) z18) fun z21 =>
  some z21
set_option maxHeartbeats 4000000 in
set_option maxRecDepth 100000 in
theorem k_X0_leastVolt {h q_h_rules q_h_stuck q_h_below q_h_rules_misses q_h_rules_resistors : Nat} {v1 : Int32} {m_h_size : Int32} {m_h_rules_bits : Int32} {m_h_rules_unit : Int32} {m_h_rules_offset : Int32} {m_h_rules_lean : Int32} {m_h_rules_ref : Int32} {m_h_rules_top : Int32} {m_h_below : Nat → Int32} {z : Int32} (C : cx p s m args meth c cX0_leastVolt 2 (some .int) RX0 D cy A) (hf : f_X0_leastVolt v1 m_h_size m_h_rules_ref m_h_below = some z) (hP : va_P D vwCl [(h, .inr (0, [.ref q_h_rules, .ref q_h_stuck, .ref q_h_below, .int m_h_size])), (q_h_rules, .inr (5, [.int m_h_rules_bits, .int m_h_rules_unit, .int m_h_rules_offset, .int m_h_rules_lean, .int m_h_rules_ref, .int m_h_rules_top, .ref q_h_rules_misses, .ref q_h_rules_resistors])), (q_h_below, aI cy 17 m_h_below)] H) (hD : va_D A [(h, .inr (0, [.ref q_h_rules, .ref q_h_stuck, .ref q_h_below, .int m_h_size])), (q_h_rules, .inr (5, [.int m_h_rules_bits, .int m_h_rules_unit, .int m_h_rules_offset, .int m_h_rules_lean, .int m_h_rules_ref, .int m_h_rules_top, .ref q_h_rules_misses, .ref q_h_rules_resistors])), (q_h_below, aI cy 17 m_h_below)]) (hS : va_S A s.heap H locs) (hl : lv_has ls 2 [(0, .ref h), (1, .int v1)]) : W p l e ({ frames := 1, cells := 0, slots := 0, locals := 21 } : Room) s m args below meth c H locs 0 0 (MQ below (kqi D cy [(h, .inr (0, [.ref q_h_rules, .ref q_h_stuck, .ref q_h_below, .int m_h_size])), (q_h_rules, .inr (5, [.int m_h_rules_bits, .int m_h_rules_unit, .int m_h_rules_offset, .int m_h_rules_lean, .int m_h_rules_ref, .int m_h_rules_top, .ref q_h_rules_misses, .ref q_h_rules_resistors])), (q_h_below, aI cy 17 m_h_below)] z A) args s 0 0 A) (F0 m 0 ls []) := by
  obtain ⟨hx, hb, hr, hml, hown, hts, hlk, hK, hA, hN⟩ := id C
  unfold f_X0_leastVolt at hf
  refine lv_aload_n hx hb dX0_leastVolt_0 rfl (lv_at hl 0 rfl) ?_
  refine va_get (D := D) (ci := 0) (v := .ref q_h_rules) (C := RX0) (T := TX0) (N := 4) hx hb hts ui_X0 hown hK hP 0 rfl rfl 0 (by decide) (hts _ fl_X0_24) (fun _ h9 => h9) rfl dX0_leastVolt_1 ?_
  refine va_get (D := D) (ci := 5) (v := .int m_h_rules_ref) (C := RX5) (T := TX5) (N := 8) hx hb hts ui_X5 hown hK hP 1 rfl rfl 4 (by decide) (hts _ fl_X0_48) (fun _ h9 => h9) rfl dX0_leastVolt_4 ?_
  refine lv_aload_n hx hb dX0_leastVolt_7 rfl (lv_at hl 0 rfl) ?_
  refine lv_iload_n hx hb dX0_leastVolt_8 rfl (lv_at hl 1 rfl) ?_
  obtain ⟨z9, hz9, hf⟩ := zb_of hf
  refine goI (wr := [(q_h_rules, .inr (5, [.int m_h_rules_bits, .int m_h_rules_unit, .int m_h_rules_offset, .int m_h_rules_lean, .int m_h_rules_ref, .int m_h_rules_top, .ref q_h_rules_misses, .ref q_h_rules_resistors]))]) (ws' := [(h, .inr (0, [.ref q_h_rules, .ref q_h_stuck, .ref q_h_below, .int m_h_size])), (q_h_rules, .inr (5, [.int m_h_rules_bits, .int m_h_rules_unit, .int m_h_rules_offset, .int m_h_rules_lean, .int m_h_rules_ref, .int m_h_rules_top, .ref q_h_rules_misses, .ref q_h_rules_resistors])), (q_h_below, aI cy 17 m_h_below)]) C (runV (n := 1) (As := [.int v1]) (rest := [.int m_h_rules_ref]) C (c_X0_belowNode l D cy H.size h q_h_rules q_h_stuck q_h_below v1 m_h_size m_h_below hz9) ml_X0_45 im_X0_belowNode se_X0_belowNode ii_X0 cd_X0_belowNode hd_X0_belowNode rfl rfl ⟨Nat.le_of_ble_eq_true rfl, Nat.le_of_ble_eq_true rfl⟩ (hP.sub [0, 2] rfl) (hD.sub [0, 2] (by decide) rfl) hS rfl rfl rfl hl.1 rfl (Nat.le_of_ble_eq_true rfl) dX0_leastVolt_9) hP hD hS [0, 2] [1] [1, 0, 2] rfl rfl (by decide) (by decide) rfl (by decide) (fun H locs hP hD hS => ?_)
  refine lv_imul hx hb dX0_leastVolt_12 ?_
  refine lv_aload_n hx hb dX0_leastVolt_13 rfl (lv_at hl 0 rfl) ?_
  refine lv_aload_n hx hb dX0_leastVolt_14 rfl (lv_at hl 0 rfl) ?_
  refine va_get (D := D) (ci := 0) (v := .int m_h_size) (C := RX0) (T := TX0) (N := 4) hx hb hts ui_X0 hown hK hP 0 rfl rfl 3 (by decide) (hts _ fl_X0_20) (fun _ h9 => h9) rfl dX0_leastVolt_15 ?_
  obtain ⟨z18, hz18, hf⟩ := zb_of hf
  refine goI (wr := [(q_h_rules, .inr (5, [.int m_h_rules_bits, .int m_h_rules_unit, .int m_h_rules_offset, .int m_h_rules_lean, .int m_h_rules_ref, .int m_h_rules_top, .ref q_h_rules_misses, .ref q_h_rules_resistors]))]) (ws' := [(h, .inr (0, [.ref q_h_rules, .ref q_h_stuck, .ref q_h_below, .int m_h_size])), (q_h_rules, .inr (5, [.int m_h_rules_bits, .int m_h_rules_unit, .int m_h_rules_offset, .int m_h_rules_lean, .int m_h_rules_ref, .int m_h_rules_top, .ref q_h_rules_misses, .ref q_h_rules_resistors])), (q_h_below, aI cy 17 m_h_below)]) C (runV (n := 1) (As := [.int m_h_size]) (rest := [.int (m_h_rules_ref * z9)]) C (c_X0_belowNode l D cy H.size h q_h_rules q_h_stuck q_h_below m_h_size m_h_size m_h_below hz18) ml_X0_45 im_X0_belowNode se_X0_belowNode ii_X0 cd_X0_belowNode hd_X0_belowNode rfl rfl ⟨Nat.le_of_ble_eq_true rfl, Nat.le_of_ble_eq_true rfl⟩ (hP.sub [0, 2] rfl) (hD.sub [0, 2] (by decide) rfl) hS rfl rfl rfl hl.1 rfl (Nat.le_of_ble_eq_true rfl) dX0_leastVolt_18) hP hD hS [0, 2] [1] [1, 0, 2] rfl rfl (by decide) (by decide) rfl (by decide) (fun H locs hP hD hS => ?_)
  obtain ⟨z21, hz21, hf⟩ := zb_of hf
  refine goI (wr := [(h, .inr (0, [.ref q_h_rules, .ref q_h_stuck, .ref q_h_below, .int m_h_size])), (q_h_rules, .inr (5, [.int m_h_rules_bits, .int m_h_rules_unit, .int m_h_rules_offset, .int m_h_rules_lean, .int m_h_rules_ref, .int m_h_rules_top, .ref q_h_rules_misses, .ref q_h_rules_resistors])), (q_h_below, aI cy 17 m_h_below)]) (ws' := [(h, .inr (0, [.ref q_h_rules, .ref q_h_stuck, .ref q_h_below, .int m_h_size])), (q_h_rules, .inr (5, [.int m_h_rules_bits, .int m_h_rules_unit, .int m_h_rules_offset, .int m_h_rules_lean, .int m_h_rules_ref, .int m_h_rules_top, .ref q_h_rules_misses, .ref q_h_rules_resistors])), (q_h_below, aI cy 17 m_h_below)]) C (runSN (n := 2) (As := [.int (m_h_rules_ref * z9), .int z18]) (rest := []) (host := "VoltNumbers") C (c_X11_dividedUp l D cy H.size (m_h_rules_ref * z9) z18 hz21) (by decide +kernel) st_X11_dividedUp ii_X11 cd_X11_dividedUp hd_X11_dividedUp rfl rfl ⟨Nat.le_of_ble_eq_true rfl, Nat.le_of_ble_eq_true rfl⟩ (hP.sub [] rfl) (hD.sub [] (by decide) rfl) hS rfl hl.1 rfl (Nat.le_of_ble_eq_true rfl) dX0_leastVolt_21) hP hD hS [] [0, 1, 2] [0, 1, 2] rfl rfl (by decide) (by decide) rfl (by decide) (fun H locs hP hD hS => ?_)
  obtain rfl := Option.some.inj hf
  exact ret_i C hP hD hS dX0_leastVolt_24
set_option maxRecDepth 100000 in
theorem c_X0_leastVolt (l : Launch) (D : va_G) (cy : Nat → ClassId) (sz : Nat) (h q_h_rules q_h_stuck q_h_below q_h_rules_misses q_h_rules_resistors : Nat) (v1 : Int32) (m_h_size : Int32) (m_h_rules_bits : Int32) (m_h_rules_unit : Int32) (m_h_rules_offset : Int32) (m_h_rules_lean : Int32) (m_h_rules_ref : Int32) (m_h_rules_top : Int32) (m_h_below : Nat → Int32) {z : Int32} (hf : f_X0_leastVolt v1 m_h_size m_h_rules_ref m_h_below = some z) : Met l yX0_leastVolt (.code yX0_leastVolt cX0_leastVolt 2 (some .int) :: tb) ({ frames := 1, cells := 0, slots := 0, locals := 21 } : Room) (kp D cy sz [.ref h, .int v1] [(h, .inr (0, [.ref q_h_rules, .ref q_h_stuck, .ref q_h_below, .int m_h_size])), (q_h_rules, .inr (5, [.int m_h_rules_bits, .int m_h_rules_unit, .int m_h_rules_offset, .int m_h_rules_lean, .int m_h_rules_ref, .int m_h_rules_top, .ref q_h_rules_misses, .ref q_h_rules_resistors])), (q_h_below, aI cy 17 m_h_below)]) (kqi D cy [(h, .inr (0, [.ref q_h_rules, .ref q_h_stuck, .ref q_h_below, .int m_h_size])), (q_h_rules, .inr (5, [.int m_h_rules_bits, .int m_h_rules_unit, .int m_h_rules_offset, .int m_h_rules_lean, .int m_h_rules_ref, .int m_h_rules_top, .ref q_h_rules_misses, .ref q_h_rules_resistors])), (q_h_below, aI cy 17 m_h_below)] z (va_A [(h, .inr (0, [.ref q_h_rules, .ref q_h_stuck, .ref q_h_below, .int m_h_size])), (q_h_rules, .inr (5, [.int m_h_rules_bits, .int m_h_rules_unit, .int m_h_rules_offset, .int m_h_rules_lean, .int m_h_rules_ref, .int m_h_rules_top, .ref q_h_rules_misses, .ref q_h_rules_resistors])), (q_h_below, aI cy 17 m_h_below)] sz)) 0 0 (va_A [(h, .inr (0, [.ref q_h_rules, .ref q_h_stuck, .ref q_h_below, .int m_h_size])), (q_h_rules, .inr (5, [.int m_h_rules_bits, .int m_h_rules_unit, .int m_h_rules_offset, .int m_h_rules_lean, .int m_h_rules_ref, .int m_h_rules_top, .ref q_h_rules_misses, .ref q_h_rules_resistors])), (q_h_below, aI cy 17 m_h_below)] sz) :=
  met_of (fun A => kqi D cy [(h, .inr (0, [.ref q_h_rules, .ref q_h_stuck, .ref q_h_below, .int m_h_size])), (q_h_rules, .inr (5, [.int m_h_rules_bits, .int m_h_rules_unit, .int m_h_rules_offset, .int m_h_rules_lean, .int m_h_rules_ref, .int m_h_rules_top, .ref q_h_rules_misses, .ref q_h_rules_resistors])), (q_h_below, aI cy 17 m_h_below)] z A) (by decide +kernel) (Nat.le_of_ble_eq_true rfl) (fun p e s m below meth c A ls C hP hD hS hl => k_X0_leastVolt C hf hP hD hS hl)
theorem hd_X0_leastVolt : yX0_leastVolt.cls ≠ "java/lang/invoke/MethodHandle" ∧ yX0_leastVolt.cls ≠ "java/lang/invoke/VarHandle" ∧ (parseMethodDescriptor yX0_leastVolt.desc).map (fun d => d.parameters.length) = some 1 := by decide +kernel
def f_X0_saying (v0 : Int32) : Option (Int32) :=
  zb (f_J6_bitCount_0f7a4 v0) fun z1 =>
  some z1
set_option maxHeartbeats 4000000 in
set_option maxRecDepth 100000 in
theorem k_X0_saying {v0 : Int32} {z : Int32} (C : cx p s m args meth c cX0_saying 1 (some .int) RX0 D cy A) (hf : f_X0_saying v0 = some z) (hP : va_P D vwCl [] H) (hD : va_D A []) (hS : va_S A s.heap H locs) (hl : lv_has ls 1 [(0, .int v0)]) : W p l e ({ frames := 1, cells := 0, slots := 0, locals := 20 } : Room) s m args below meth c H locs 0 0 (MQ below (kqi D cy [] z A) args s 0 0 A) (F0 m 0 ls []) := by
  obtain ⟨hx, hb, hr, hml, hown, hts, hlk, hK, hA, hN⟩ := id C
  unfold f_X0_saying at hf
  refine lv_iload_n hx hb dX0_saying_0 rfl (lv_at hl 0 rfl) ?_
  obtain ⟨z1, hz1, hf⟩ := zb_of hf
  refine goI (wr := []) (ws' := []) C (runS (n := 1) (As := [.int v0]) (rest := []) C (c_J6_bitCount_0f7a4 l D cy H.size v0 hz1) ml_X0_55 st_J6_bitCount_0f7a4 ii_J6 cd_J6_bitCount_0f7a4 hd_J6_bitCount_0f7a4 rfl rfl ⟨Nat.le_of_ble_eq_true rfl, Nat.le_of_ble_eq_true rfl⟩ (hP.sub [] rfl) (hD.sub [] (by decide) rfl) hS rfl hl.1 rfl (Nat.le_of_ble_eq_true rfl) dX0_saying_1) hP hD hS [] [] [] rfl rfl (by decide) (by decide) rfl (by decide) (fun H locs hP hD hS => ?_)
  obtain rfl := Option.some.inj hf
  exact ret_i C hP hD hS dX0_saying_4
set_option maxRecDepth 100000 in
theorem c_X0_saying (l : Launch) (D : va_G) (cy : Nat → ClassId) (sz : Nat) (v0 : Int32) {z : Int32} (hf : f_X0_saying v0 = some z) : Met l yX0_saying (.code yX0_saying cX0_saying 1 (some .int) :: tb) ({ frames := 1, cells := 0, slots := 0, locals := 20 } : Room) (kp D cy sz [.int v0] []) (kqi D cy [] z (va_A [] sz)) 0 0 (va_A [] sz) :=
  met_of (fun A => kqi D cy [] z A) (by decide +kernel) (Nat.le_of_ble_eq_true rfl) (fun p e s m below meth c A ls C hP hD hS hl => k_X0_saying C hf hP hD hS hl)
theorem hd_X0_saying : yX0_saying.cls ≠ "java/lang/invoke/MethodHandle" ∧ yX0_saying.cls ≠ "java/lang/invoke/VarHandle" ∧ (parseMethodDescriptor yX0_saying.desc).map (fun d => d.parameters.length) = some 1 := by decide +kernel
def f_X0_stuckAt (v1 : Int32) (m_h_stuck : Nat → Int32) : Option (Int32) :=
  zb (f_X0_isComparer v1) fun z2 =>
  if z2 = 0 then
    some (-4 : Int32)
  else
    zc v1 16 <|
    some (m_h_stuck v1.toNatClampNeg)
set_option maxHeartbeats 4000000 in
set_option maxRecDepth 100000 in
theorem k_X0_stuckAt {h q_h_rules q_h_stuck q_h_below : Nat} {v1 : Int32} {m_h_size : Int32} {m_h_stuck : Nat → Int32} {z : Int32} (C : cx p s m args meth c cX0_stuckAt 2 (some .int) RX0 D cy A) (hf : f_X0_stuckAt v1 m_h_stuck = some z) (hP : va_P D vwCl [(h, .inr (0, [.ref q_h_rules, .ref q_h_stuck, .ref q_h_below, .int m_h_size])), (q_h_stuck, aI cy 16 m_h_stuck)] H) (hD : va_D A [(h, .inr (0, [.ref q_h_rules, .ref q_h_stuck, .ref q_h_below, .int m_h_size])), (q_h_stuck, aI cy 16 m_h_stuck)]) (hS : va_S A s.heap H locs) (hl : lv_has ls 2 [(0, .ref h), (1, .int v1)]) : W p l e ({ frames := 1, cells := 0, slots := 0, locals := 21 } : Room) s m args below meth c H locs 0 0 (MQ below (kqi D cy [(h, .inr (0, [.ref q_h_rules, .ref q_h_stuck, .ref q_h_below, .int m_h_size])), (q_h_stuck, aI cy 16 m_h_stuck)] z A) args s 0 0 A) (F0 m 0 ls []) := by
  obtain ⟨hx, hb, hr, hml, hown, hts, hlk, hK, hA, hN⟩ := id C
  unfold f_X0_stuckAt at hf
  refine lv_aload_n hx hb dX0_stuckAt_0 rfl (lv_at hl 0 rfl) ?_
  refine lv_iload_n hx hb dX0_stuckAt_1 rfl (lv_at hl 1 rfl) ?_
  obtain ⟨z2, hz2, hf⟩ := zb_of hf
  refine goZ (wr := []) (ws' := [(h, .inr (0, [.ref q_h_rules, .ref q_h_stuck, .ref q_h_below, .int m_h_size])), (q_h_stuck, aI cy 16 m_h_stuck)]) C (runV (n := 1) (As := [.int v1]) (rest := []) C (c_X0_isComparer l D cy H.size h q_h_rules q_h_stuck q_h_below v1 m_h_size m_h_stuck hz2) ml_X0_38 im_X0_isComparer se_X0_isComparer ii_X0 cd_X0_isComparer hd_X0_isComparer rfl rfl ⟨Nat.le_of_ble_eq_true rfl, Nat.le_of_ble_eq_true rfl⟩ (hP.sub [0, 1] rfl) (hD.sub [0, 1] (by decide) rfl) hS rfl rfl rfl hl.1 rfl (Nat.le_of_ble_eq_true rfl) dX0_stuckAt_2) hP hD hS [0, 1] [] [0, 1] rfl rfl (by decide) (by decide) rfl (by decide) (fun H locs n2 hP hD hS => ?_)
  refine lv_if_eq (tgt := 17) hx hb dX0_stuckAt_5 (by decide) (fun c5 => ?_) (fun c5 => ?_)
  · have hf := zt c5 hf
    refine lv_bipush (v := -4) hx hb dX0_stuckAt_17 (by decide) ?_
    obtain rfl := Option.some.inj hf
    exact ret_i C hP hD hS dX0_stuckAt_19
  · have hf := zf c5 hf
    refine lv_aload_n hx hb dX0_stuckAt_8 rfl (lv_at hl 0 rfl) ?_
    refine va_get (D := D) (ci := 0) (v := .ref q_h_stuck) (C := RX0) (T := TX0) (N := 4) hx hb hts ui_X0 hown hK hP 0 rfl rfl 1 (by decide) (hts _ fl_X0_11) (fun _ h9 => h9) rfl dX0_stuckAt_9 ?_
    refine lv_iload_n hx hb dX0_stuckAt_12 rfl (lv_at hl 1 rfl) ?_
    obtain ⟨hin, hf⟩ := zc_of hf
    refine va_iald hx hb hK hP 1 1 rfl rfl hin dX0_stuckAt_13 ?_
    refine lv_goto (tgt := 19) hx hb dX0_stuckAt_14 (by decide) ?_
    obtain rfl := Option.some.inj hf
    exact ret_i C hP hD hS dX0_stuckAt_19
set_option maxRecDepth 100000 in
theorem c_X0_stuckAt (l : Launch) (D : va_G) (cy : Nat → ClassId) (sz : Nat) (h q_h_rules q_h_stuck q_h_below : Nat) (v1 : Int32) (m_h_size : Int32) (m_h_stuck : Nat → Int32) {z : Int32} (hf : f_X0_stuckAt v1 m_h_stuck = some z) : Met l yX0_stuckAt (.code yX0_stuckAt cX0_stuckAt 2 (some .int) :: tb) ({ frames := 1, cells := 0, slots := 0, locals := 21 } : Room) (kp D cy sz [.ref h, .int v1] [(h, .inr (0, [.ref q_h_rules, .ref q_h_stuck, .ref q_h_below, .int m_h_size])), (q_h_stuck, aI cy 16 m_h_stuck)]) (kqi D cy [(h, .inr (0, [.ref q_h_rules, .ref q_h_stuck, .ref q_h_below, .int m_h_size])), (q_h_stuck, aI cy 16 m_h_stuck)] z (va_A [(h, .inr (0, [.ref q_h_rules, .ref q_h_stuck, .ref q_h_below, .int m_h_size])), (q_h_stuck, aI cy 16 m_h_stuck)] sz)) 0 0 (va_A [(h, .inr (0, [.ref q_h_rules, .ref q_h_stuck, .ref q_h_below, .int m_h_size])), (q_h_stuck, aI cy 16 m_h_stuck)] sz) :=
  met_of (fun A => kqi D cy [(h, .inr (0, [.ref q_h_rules, .ref q_h_stuck, .ref q_h_below, .int m_h_size])), (q_h_stuck, aI cy 16 m_h_stuck)] z A) (by decide +kernel) (Nat.le_of_ble_eq_true rfl) (fun p e s m below meth c A ls C hP hD hS hl => k_X0_stuckAt C hf hP hD hS hl)
theorem hd_X0_stuckAt : yX0_stuckAt.cls ≠ "java/lang/invoke/MethodHandle" ∧ yX0_stuckAt.cls ≠ "java/lang/invoke/VarHandle" ∧ (parseMethodDescriptor yX0_stuckAt.desc).map (fun d => d.parameters.length) = some 1 := by decide +kernel
def f_X0_saysOne (v1 : Int32) (v2 : Int32) (m_h_size : Int32) (m_h_rules_ref : Int32) (m_h_stuck : Nat → Int32) (m_h_below : Nat → Int32) : Option (Int32) :=
  zb (f_X0_stuckAt v1 m_h_stuck) fun z2 =>
  if z2 = (-4 : Int32) then
    zb (f_X0_belowNode m_h_size m_h_below) fun z29 =>
    zb (f_X0_belowNode v1 m_h_below) fun z42 =>
    if (v2 * z29) < (m_h_rules_ref * z42) then
      some (0 : Int32)
    else
      some (1 : Int32)
  else
    if z2 = (1 : Int32) then
      some (1 : Int32)
    else
      some (0 : Int32)
set_option maxHeartbeats 4000000 in
set_option maxRecDepth 100000 in
theorem k_X0_saysOne {h q_h_rules q_h_stuck q_h_below q_h_rules_misses q_h_rules_resistors : Nat} {v1 : Int32} {v2 : Int32} {m_h_size : Int32} {m_h_rules_bits : Int32} {m_h_rules_unit : Int32} {m_h_rules_offset : Int32} {m_h_rules_lean : Int32} {m_h_rules_ref : Int32} {m_h_rules_top : Int32} {m_h_stuck : Nat → Int32} {m_h_below : Nat → Int32} {z : Int32} (C : cx p s m args meth c cX0_saysOne 4 (some .boolean) RX0 D cy A) (hf : f_X0_saysOne v1 v2 m_h_size m_h_rules_ref m_h_stuck m_h_below = some z) (hP : va_P D vwCl [(h, .inr (0, [.ref q_h_rules, .ref q_h_stuck, .ref q_h_below, .int m_h_size])), (q_h_rules, .inr (5, [.int m_h_rules_bits, .int m_h_rules_unit, .int m_h_rules_offset, .int m_h_rules_lean, .int m_h_rules_ref, .int m_h_rules_top, .ref q_h_rules_misses, .ref q_h_rules_resistors])), (q_h_stuck, aI cy 16 m_h_stuck), (q_h_below, aI cy 17 m_h_below)] H) (hD : va_D A [(h, .inr (0, [.ref q_h_rules, .ref q_h_stuck, .ref q_h_below, .int m_h_size])), (q_h_rules, .inr (5, [.int m_h_rules_bits, .int m_h_rules_unit, .int m_h_rules_offset, .int m_h_rules_lean, .int m_h_rules_ref, .int m_h_rules_top, .ref q_h_rules_misses, .ref q_h_rules_resistors])), (q_h_stuck, aI cy 16 m_h_stuck), (q_h_below, aI cy 17 m_h_below)]) (hS : va_S A s.heap H locs) (hl : lv_has ls 4 [(0, .ref h), (1, .int v1), (2, .int v2)]) : W p l e ({ frames := 2, cells := 0, slots := 0, locals := 42 } : Room) s m args below meth c H locs 0 0 (MQ below (kqz D cy [(h, .inr (0, [.ref q_h_rules, .ref q_h_stuck, .ref q_h_below, .int m_h_size])), (q_h_rules, .inr (5, [.int m_h_rules_bits, .int m_h_rules_unit, .int m_h_rules_offset, .int m_h_rules_lean, .int m_h_rules_ref, .int m_h_rules_top, .ref q_h_rules_misses, .ref q_h_rules_resistors])), (q_h_stuck, aI cy 16 m_h_stuck), (q_h_below, aI cy 17 m_h_below)] z A) args s 0 0 A) (F0 m 0 ls []) := by
  obtain ⟨hx, hb, hr, hml, hown, hts, hlk, hK, hA, hN⟩ := id C
  unfold f_X0_saysOne at hf
  refine lv_aload_n hx hb dX0_saysOne_0 rfl (lv_at hl 0 rfl) ?_
  refine lv_iload_n hx hb dX0_saysOne_1 rfl (lv_at hl 1 rfl) ?_
  obtain ⟨z2, hz2, hf⟩ := zb_of hf
  refine goI (wr := [(q_h_rules, .inr (5, [.int m_h_rules_bits, .int m_h_rules_unit, .int m_h_rules_offset, .int m_h_rules_lean, .int m_h_rules_ref, .int m_h_rules_top, .ref q_h_rules_misses, .ref q_h_rules_resistors])), (q_h_below, aI cy 17 m_h_below)]) (ws' := [(h, .inr (0, [.ref q_h_rules, .ref q_h_stuck, .ref q_h_below, .int m_h_size])), (q_h_rules, .inr (5, [.int m_h_rules_bits, .int m_h_rules_unit, .int m_h_rules_offset, .int m_h_rules_lean, .int m_h_rules_ref, .int m_h_rules_top, .ref q_h_rules_misses, .ref q_h_rules_resistors])), (q_h_stuck, aI cy 16 m_h_stuck), (q_h_below, aI cy 17 m_h_below)]) C (runV (n := 1) (As := [.int v1]) (rest := []) C (c_X0_stuckAt l D cy H.size h q_h_rules q_h_stuck q_h_below v1 m_h_size m_h_stuck hz2) ml_X0_34 im_X0_stuckAt se_X0_stuckAt ii_X0 cd_X0_stuckAt hd_X0_stuckAt rfl rfl ⟨Nat.le_of_ble_eq_true rfl, Nat.le_of_ble_eq_true rfl⟩ (hP.sub [0, 2] rfl) (hD.sub [0, 2] (by decide) rfl) hS rfl rfl rfl hl.1 rfl (Nat.le_of_ble_eq_true rfl) dX0_saysOne_2) hP hD hS [0, 2] [1, 3] [2, 0, 3, 1] rfl rfl (by decide) (by decide) rfl (by decide) (fun H locs hP hD hS => ?_)
  refine lv_istore_n (lv' := [(3, .int z2), (0, .ref h), (1, .int v1), (2, .int v2)]) hx hb dX0_saysOne_5 rfl hl (by decide) rfl (fun ls hl => ?_)
  refine lv_iload_n hx hb dX0_saysOne_6 rfl (lv_at hl 0 rfl) ?_
  refine lv_bipush (v := -4) hx hb dX0_saysOne_7 (by decide) ?_
  refine lv_icmp_eq (tgt := 23) hx hb dX0_saysOne_9 (by decide) (fun c9 => ?_) (fun c9 => ?_)
  · have hf := zt c9 hf
    refine lv_iload_n hx hb dX0_saysOne_23 rfl (lv_at hl 3 rfl) ?_
    refine lv_aload_n hx hb dX0_saysOne_24 rfl (lv_at hl 1 rfl) ?_
    refine lv_aload_n hx hb dX0_saysOne_25 rfl (lv_at hl 1 rfl) ?_
    refine va_get (D := D) (ci := 0) (v := .int m_h_size) (C := RX0) (T := TX0) (N := 4) hx hb hts ui_X0 hown hK hP 0 rfl rfl 3 (by decide) (hts _ fl_X0_20) (fun _ h9 => h9) rfl dX0_saysOne_26 ?_
    obtain ⟨z29, hz29, hf⟩ := zb_of hf
    refine goI (wr := [(q_h_rules, .inr (5, [.int m_h_rules_bits, .int m_h_rules_unit, .int m_h_rules_offset, .int m_h_rules_lean, .int m_h_rules_ref, .int m_h_rules_top, .ref q_h_rules_misses, .ref q_h_rules_resistors])), (q_h_stuck, aI cy 16 m_h_stuck)]) (ws' := [(h, .inr (0, [.ref q_h_rules, .ref q_h_stuck, .ref q_h_below, .int m_h_size])), (q_h_rules, .inr (5, [.int m_h_rules_bits, .int m_h_rules_unit, .int m_h_rules_offset, .int m_h_rules_lean, .int m_h_rules_ref, .int m_h_rules_top, .ref q_h_rules_misses, .ref q_h_rules_resistors])), (q_h_stuck, aI cy 16 m_h_stuck), (q_h_below, aI cy 17 m_h_below)]) C (runV (n := 1) (As := [.int m_h_size]) (rest := [.int v2]) C (c_X0_belowNode l D cy H.size h q_h_rules q_h_stuck q_h_below m_h_size m_h_size m_h_below hz29) ml_X0_45 im_X0_belowNode se_X0_belowNode ii_X0 cd_X0_belowNode hd_X0_belowNode rfl rfl ⟨Nat.le_of_ble_eq_true rfl, Nat.le_of_ble_eq_true rfl⟩ (hP.sub [0, 3] rfl) (hD.sub [0, 3] (by decide) rfl) hS rfl rfl rfl hl.1 rfl (Nat.le_of_ble_eq_true rfl) dX0_saysOne_29) hP hD hS [0, 3] [1, 2] [2, 0, 1, 3] rfl rfl (by decide) (by decide) rfl (by decide) (fun H locs hP hD hS => ?_)
    refine lv_imul hx hb dX0_saysOne_32 ?_
    refine lv_aload_n hx hb dX0_saysOne_33 rfl (lv_at hl 1 rfl) ?_
    refine va_get (D := D) (ci := 0) (v := .ref q_h_rules) (C := RX0) (T := TX0) (N := 4) hx hb hts ui_X0 hown hK hP 0 rfl rfl 0 (by decide) (hts _ fl_X0_24) (fun _ h9 => h9) rfl dX0_saysOne_34 ?_
    refine va_get (D := D) (ci := 5) (v := .int m_h_rules_ref) (C := RX5) (T := TX5) (N := 8) hx hb hts ui_X5 hown hK hP 1 rfl rfl 4 (by decide) (hts _ fl_X0_48) (fun _ h9 => h9) rfl dX0_saysOne_37 ?_
    refine lv_aload_n hx hb dX0_saysOne_40 rfl (lv_at hl 1 rfl) ?_
    refine lv_iload_n hx hb dX0_saysOne_41 rfl (lv_at hl 2 rfl) ?_
    obtain ⟨z42, hz42, hf⟩ := zb_of hf
    refine goI (wr := [(q_h_rules, .inr (5, [.int m_h_rules_bits, .int m_h_rules_unit, .int m_h_rules_offset, .int m_h_rules_lean, .int m_h_rules_ref, .int m_h_rules_top, .ref q_h_rules_misses, .ref q_h_rules_resistors])), (q_h_stuck, aI cy 16 m_h_stuck)]) (ws' := [(h, .inr (0, [.ref q_h_rules, .ref q_h_stuck, .ref q_h_below, .int m_h_size])), (q_h_rules, .inr (5, [.int m_h_rules_bits, .int m_h_rules_unit, .int m_h_rules_offset, .int m_h_rules_lean, .int m_h_rules_ref, .int m_h_rules_top, .ref q_h_rules_misses, .ref q_h_rules_resistors])), (q_h_stuck, aI cy 16 m_h_stuck), (q_h_below, aI cy 17 m_h_below)]) C (runV (n := 1) (As := [.int v1]) (rest := [.int m_h_rules_ref, .int (v2 * z29)]) C (c_X0_belowNode l D cy H.size h q_h_rules q_h_stuck q_h_below v1 m_h_size m_h_below hz42) ml_X0_45 im_X0_belowNode se_X0_belowNode ii_X0 cd_X0_belowNode hd_X0_belowNode rfl rfl ⟨Nat.le_of_ble_eq_true rfl, Nat.le_of_ble_eq_true rfl⟩ (hP.sub [0, 3] rfl) (hD.sub [0, 3] (by decide) rfl) hS rfl rfl rfl hl.1 rfl (Nat.le_of_ble_eq_true rfl) dX0_saysOne_42) hP hD hS [0, 3] [1, 2] [2, 0, 1, 3] rfl rfl (by decide) (by decide) rfl (by decide) (fun H locs hP hD hS => ?_)
    refine lv_imul hx hb dX0_saysOne_45 ?_
    refine lv_icmp_lt (tgt := 53) hx hb dX0_saysOne_46 (by decide) (fun c46 => ?_) (fun c46 => ?_)
    · have hf := zt c46 hf
      refine lv_iconst (v := 0) hx hb dX0_saysOne_53 (by decide) ?_
      obtain rfl := Option.some.inj hf
      exact ret_z (v := (0 : Int32)) C rfl hP hD hS dX0_saysOne_54
    · have hf := zf c46 hf
      refine lv_iconst (v := 1) hx hb dX0_saysOne_49 (by decide) ?_
      refine lv_goto (tgt := 54) hx hb dX0_saysOne_50 (by decide) ?_
      obtain rfl := Option.some.inj hf
      exact ret_z (v := (1 : Int32)) C rfl hP hD hS dX0_saysOne_54
  · have hf := zf c9 hf
    refine lv_iload_n hx hb dX0_saysOne_12 rfl (lv_at hl 0 rfl) ?_
    refine lv_iconst (v := 1) hx hb dX0_saysOne_13 (by decide) ?_
    refine lv_icmp_ne (tgt := 21) hx hb dX0_saysOne_14 (by decide) (fun c14 => ?_) (fun c14 => ?_)
    · have hf := zf c14 hf
      refine lv_iconst (v := 0) hx hb dX0_saysOne_21 (by decide) ?_
      obtain rfl := Option.some.inj hf
      exact ret_z (v := (0 : Int32)) C rfl hP hD hS dX0_saysOne_22
    · have hf := zt c14 hf
      refine lv_iconst (v := 1) hx hb dX0_saysOne_17 (by decide) ?_
      refine lv_goto (tgt := 22) hx hb dX0_saysOne_18 (by decide) ?_
      obtain rfl := Option.some.inj hf
      exact ret_z (v := (1 : Int32)) C rfl hP hD hS dX0_saysOne_22
set_option maxRecDepth 100000 in
theorem c_X0_saysOne (l : Launch) (D : va_G) (cy : Nat → ClassId) (sz : Nat) (h q_h_rules q_h_stuck q_h_below q_h_rules_misses q_h_rules_resistors : Nat) (v1 : Int32) (v2 : Int32) (m_h_size : Int32) (m_h_rules_bits : Int32) (m_h_rules_unit : Int32) (m_h_rules_offset : Int32) (m_h_rules_lean : Int32) (m_h_rules_ref : Int32) (m_h_rules_top : Int32) (m_h_stuck : Nat → Int32) (m_h_below : Nat → Int32) {z : Int32} (hf : f_X0_saysOne v1 v2 m_h_size m_h_rules_ref m_h_stuck m_h_below = some z) : Met l yX0_saysOne (.code yX0_saysOne cX0_saysOne 4 (some .boolean) :: tb) ({ frames := 2, cells := 0, slots := 0, locals := 42 } : Room) (kp D cy sz [.ref h, .int v1, .int v2] [(h, .inr (0, [.ref q_h_rules, .ref q_h_stuck, .ref q_h_below, .int m_h_size])), (q_h_rules, .inr (5, [.int m_h_rules_bits, .int m_h_rules_unit, .int m_h_rules_offset, .int m_h_rules_lean, .int m_h_rules_ref, .int m_h_rules_top, .ref q_h_rules_misses, .ref q_h_rules_resistors])), (q_h_stuck, aI cy 16 m_h_stuck), (q_h_below, aI cy 17 m_h_below)]) (kqz D cy [(h, .inr (0, [.ref q_h_rules, .ref q_h_stuck, .ref q_h_below, .int m_h_size])), (q_h_rules, .inr (5, [.int m_h_rules_bits, .int m_h_rules_unit, .int m_h_rules_offset, .int m_h_rules_lean, .int m_h_rules_ref, .int m_h_rules_top, .ref q_h_rules_misses, .ref q_h_rules_resistors])), (q_h_stuck, aI cy 16 m_h_stuck), (q_h_below, aI cy 17 m_h_below)] z (va_A [(h, .inr (0, [.ref q_h_rules, .ref q_h_stuck, .ref q_h_below, .int m_h_size])), (q_h_rules, .inr (5, [.int m_h_rules_bits, .int m_h_rules_unit, .int m_h_rules_offset, .int m_h_rules_lean, .int m_h_rules_ref, .int m_h_rules_top, .ref q_h_rules_misses, .ref q_h_rules_resistors])), (q_h_stuck, aI cy 16 m_h_stuck), (q_h_below, aI cy 17 m_h_below)] sz)) 0 0 (va_A [(h, .inr (0, [.ref q_h_rules, .ref q_h_stuck, .ref q_h_below, .int m_h_size])), (q_h_rules, .inr (5, [.int m_h_rules_bits, .int m_h_rules_unit, .int m_h_rules_offset, .int m_h_rules_lean, .int m_h_rules_ref, .int m_h_rules_top, .ref q_h_rules_misses, .ref q_h_rules_resistors])), (q_h_stuck, aI cy 16 m_h_stuck), (q_h_below, aI cy 17 m_h_below)] sz) :=
  met_of (fun A => kqz D cy [(h, .inr (0, [.ref q_h_rules, .ref q_h_stuck, .ref q_h_below, .int m_h_size])), (q_h_rules, .inr (5, [.int m_h_rules_bits, .int m_h_rules_unit, .int m_h_rules_offset, .int m_h_rules_lean, .int m_h_rules_ref, .int m_h_rules_top, .ref q_h_rules_misses, .ref q_h_rules_resistors])), (q_h_stuck, aI cy 16 m_h_stuck), (q_h_below, aI cy 17 m_h_below)] z A) (by decide +kernel) (Nat.le_of_ble_eq_true rfl) (fun p e s m below meth c A ls C hP hD hS hl => k_X0_saysOne C hf hP hD hS hl)
theorem hd_X0_saysOne : yX0_saysOne.cls ≠ "java/lang/invoke/MethodHandle" ∧ yX0_saysOne.cls ≠ "java/lang/invoke/VarHandle" ∧ (parseMethodDescriptor yX0_saysOne.desc).map (fun d => d.parameters.length) = some 2 := by decide +kernel
def f_X0_stickAt (v1 : Int32) (v2 : Int32) (m_h_stuck : Nat → Int32) : Option (Int32 × (Nat → Int32)) :=
  zb (f_X0_stuckAt v1 m_h_stuck) fun z2 =>
  zb (f_X0_isComparer v1) fun z8 =>
  if z8 = 0 then
    some (z2, m_h_stuck)
  else
    zc v1 16 <|
    zl (upd m_h_stuck v1.toNatClampNeg v2) fun a20 =>
    some (z2, a20)
set_option maxHeartbeats 4000000 in
set_option maxRecDepth 100000 in
theorem k_X0_stickAt {h q_h_rules q_h_stuck q_h_below : Nat} {v1 : Int32} {v2 : Int32} {m_h_size : Int32} {m_h_stuck : Nat → Int32} {z : Int32 × (Nat → Int32)} (C : cx p s m args meth c cX0_stickAt 4 (some .int) RX0 D cy A) (hf : f_X0_stickAt v1 v2 m_h_stuck = some z) (hP : va_P D vwCl [(h, .inr (0, [.ref q_h_rules, .ref q_h_stuck, .ref q_h_below, .int m_h_size])), (q_h_stuck, aI cy 16 m_h_stuck)] H) (hD : va_D A [(h, .inr (0, [.ref q_h_rules, .ref q_h_stuck, .ref q_h_below, .int m_h_size])), (q_h_stuck, aI cy 16 m_h_stuck)]) (hS : va_S A s.heap H locs) (hl : lv_has ls 4 [(0, .ref h), (1, .int v1), (2, .int v2)]) : W p l e ({ frames := 2, cells := 0, slots := 0, locals := 42 } : Room) s m args below meth c H locs 0 0 (MQ below (kqi D cy [(h, .inr (0, [.ref q_h_rules, .ref q_h_stuck, .ref q_h_below, .int m_h_size])), (q_h_stuck, aI cy 16 z.2)] z.1 A) args s 0 0 A) (F0 m 0 ls []) := by
  obtain ⟨hx, hb, hr, hml, hown, hts, hlk, hK, hA, hN⟩ := id C
  unfold f_X0_stickAt at hf
  refine lv_aload_n hx hb dX0_stickAt_0 rfl (lv_at hl 0 rfl) ?_
  refine lv_iload_n hx hb dX0_stickAt_1 rfl (lv_at hl 1 rfl) ?_
  obtain ⟨z2, hz2, hf⟩ := zb_of hf
  refine goI (wr := []) (ws' := [(h, .inr (0, [.ref q_h_rules, .ref q_h_stuck, .ref q_h_below, .int m_h_size])), (q_h_stuck, aI cy 16 m_h_stuck)]) C (runV (n := 1) (As := [.int v1]) (rest := []) C (c_X0_stuckAt l D cy H.size h q_h_rules q_h_stuck q_h_below v1 m_h_size m_h_stuck hz2) ml_X0_34 im_X0_stuckAt se_X0_stuckAt ii_X0 cd_X0_stuckAt hd_X0_stuckAt rfl rfl ⟨Nat.le_of_ble_eq_true rfl, Nat.le_of_ble_eq_true rfl⟩ (hP.sub [0, 1] rfl) (hD.sub [0, 1] (by decide) rfl) hS rfl rfl rfl hl.1 rfl (Nat.le_of_ble_eq_true rfl) dX0_stickAt_2) hP hD hS [0, 1] [] [0, 1] rfl rfl (by decide) (by decide) rfl (by decide) (fun H locs hP hD hS => ?_)
  refine lv_istore_n (lv' := [(3, .int z2), (0, .ref h), (1, .int v1), (2, .int v2)]) hx hb dX0_stickAt_5 rfl hl (by decide) rfl (fun ls hl => ?_)
  refine lv_aload_n hx hb dX0_stickAt_6 rfl (lv_at hl 1 rfl) ?_
  refine lv_iload_n hx hb dX0_stickAt_7 rfl (lv_at hl 2 rfl) ?_
  obtain ⟨z8, hz8, hf⟩ := zb_of hf
  refine goZ (wr := []) (ws' := [(h, .inr (0, [.ref q_h_rules, .ref q_h_stuck, .ref q_h_below, .int m_h_size])), (q_h_stuck, aI cy 16 m_h_stuck)]) C (runV (n := 1) (As := [.int v1]) (rest := []) C (c_X0_isComparer l D cy H.size h q_h_rules q_h_stuck q_h_below v1 m_h_size m_h_stuck hz8) ml_X0_38 im_X0_isComparer se_X0_isComparer ii_X0 cd_X0_isComparer hd_X0_isComparer rfl rfl ⟨Nat.le_of_ble_eq_true rfl, Nat.le_of_ble_eq_true rfl⟩ (hP.sub [0, 1] rfl) (hD.sub [0, 1] (by decide) rfl) hS rfl rfl rfl hl.1 rfl (Nat.le_of_ble_eq_true rfl) dX0_stickAt_8) hP hD hS [0, 1] [] [0, 1] rfl rfl (by decide) (by decide) rfl (by decide) (fun H locs n8 hP hD hS => ?_)
  refine lv_if_eq (tgt := 21) hx hb dX0_stickAt_11 (by decide) (fun c11 => ?_) (fun c11 => ?_)
  · have hf := zt c11 hf
    refine lv_iload_n hx hb dX0_stickAt_21 rfl (lv_at hl 0 rfl) ?_
    obtain rfl := Option.some.inj hf
    exact ret_i C hP hD hS dX0_stickAt_22
  · have hf := zf c11 hf
    refine lv_aload_n hx hb dX0_stickAt_14 rfl (lv_at hl 1 rfl) ?_
    refine va_get (D := D) (ci := 0) (v := .ref q_h_stuck) (C := RX0) (T := TX0) (N := 4) hx hb hts ui_X0 hown hK hP 0 rfl rfl 1 (by decide) (hts _ fl_X0_11) (fun _ h9 => h9) rfl dX0_stickAt_15 ?_
    refine lv_iload_n hx hb dX0_stickAt_18 rfl (lv_at hl 2 rfl) ?_
    refine lv_iload_n hx hb dX0_stickAt_19 rfl (lv_at hl 3 rfl) ?_
    obtain ⟨hin, hf⟩ := zc_of hf
    obtain ⟨a20, ea20⟩ : ∃ y : Nat → Int32, y = upd m_h_stuck v1.toNatClampNeg v2 := ⟨_, rfl⟩
    have hf := zl_of hf a20 ea20
    refine va_iast hx hb hK hP hD hS 1 1 rfl rfl hin dX0_stickAt_20 (fun H locs hP hD hS => ?_)
    rw [← ea20] at hP hD
    have hP : va_P D vwCl [(h, .inr (0, [.ref q_h_rules, .ref q_h_stuck, .ref q_h_below, .int m_h_size])), (q_h_stuck, aI cy 16 a20)] H := hP
    have hD : va_D A [(h, .inr (0, [.ref q_h_rules, .ref q_h_stuck, .ref q_h_below, .int m_h_size])), (q_h_stuck, aI cy 16 a20)] := hD
    refine lv_iload_n hx hb dX0_stickAt_21 rfl (lv_at hl 0 rfl) ?_
    obtain rfl := Option.some.inj hf
    exact ret_i C hP hD hS dX0_stickAt_22
set_option maxRecDepth 100000 in
theorem c_X0_stickAt (l : Launch) (D : va_G) (cy : Nat → ClassId) (sz : Nat) (h q_h_rules q_h_stuck q_h_below : Nat) (v1 : Int32) (v2 : Int32) (m_h_size : Int32) (m_h_stuck : Nat → Int32) {z : Int32 × (Nat → Int32)} (hf : f_X0_stickAt v1 v2 m_h_stuck = some z) : Met l yX0_stickAt (.code yX0_stickAt cX0_stickAt 4 (some .int) :: tb) ({ frames := 2, cells := 0, slots := 0, locals := 42 } : Room) (kp D cy sz [.ref h, .int v1, .int v2] [(h, .inr (0, [.ref q_h_rules, .ref q_h_stuck, .ref q_h_below, .int m_h_size])), (q_h_stuck, aI cy 16 m_h_stuck)]) (kqi D cy [(h, .inr (0, [.ref q_h_rules, .ref q_h_stuck, .ref q_h_below, .int m_h_size])), (q_h_stuck, aI cy 16 z.2)] z.1 (va_A [(h, .inr (0, [.ref q_h_rules, .ref q_h_stuck, .ref q_h_below, .int m_h_size])), (q_h_stuck, aI cy 16 m_h_stuck)] sz)) 0 0 (va_A [(h, .inr (0, [.ref q_h_rules, .ref q_h_stuck, .ref q_h_below, .int m_h_size])), (q_h_stuck, aI cy 16 m_h_stuck)] sz) :=
  met_of (fun A => kqi D cy [(h, .inr (0, [.ref q_h_rules, .ref q_h_stuck, .ref q_h_below, .int m_h_size])), (q_h_stuck, aI cy 16 z.2)] z.1 A) (by decide +kernel) (Nat.le_of_ble_eq_true rfl) (fun p e s m below meth c A ls C hP hD hS hl => k_X0_stickAt C hf hP hD hS hl)
theorem hd_X0_stickAt : yX0_stickAt.cls ≠ "java/lang/invoke/MethodHandle" ∧ yX0_stickAt.cls ≠ "java/lang/invoke/VarHandle" ∧ (parseMethodDescriptor yX0_stickAt.desc).map (fun d => d.parameters.length) = some 2 := by decide +kernel
def f_X0_stuckOnes_J27_4 (v1 : Int32) (v2 : Int32) : Option (Nat × (Int32 × Int32)) :=
  zl (v2 + (1 : Int32)) fun x27 =>
  some (0, (v1, x27))
set_option maxHeartbeats 4000000 in
set_option maxRecDepth 100000 in
theorem k_X0_stuckOnes_J27_4 {h q_h_rules q_h_stuck q_h_below : Nat} {v1 : Int32} {v2 : Int32} {m_h_size : Int32} {m_h_stuck : Nat → Int32} {z : Nat × (Int32 × Int32)} (C : cx p s m args meth c cX0_stuckOnes 3 (some .int) RX0 D cy A) (hf : f_X0_stuckOnes_J27_4 v1 v2 = some z) (hP : va_P D vwCl [(h, .inr (0, [.ref q_h_rules, .ref q_h_stuck, .ref q_h_below, .int m_h_size])), (q_h_stuck, aI cy 16 m_h_stuck)] H) (hD : va_D A [(h, .inr (0, [.ref q_h_rules, .ref q_h_stuck, .ref q_h_below, .int m_h_size])), (q_h_stuck, aI cy 16 m_h_stuck)]) (hS : va_S A s.heap H locs) (hl : lv_has ls 3 [(0, .ref h), (1, .int v1), (2, .int v2)]) (hE0 : ∀ (H : Heap) (locs : List Loc) (ls : Array Slot), z.1 = 0 → va_P D vwCl [(h, .inr (0, [.ref q_h_rules, .ref q_h_stuck, .ref q_h_below, .int m_h_size])), (q_h_stuck, aI cy 16 m_h_stuck)] H → va_D A [(h, .inr (0, [.ref q_h_rules, .ref q_h_stuck, .ref q_h_below, .int m_h_size])), (q_h_stuck, aI cy 16 m_h_stuck)] → va_S A s.heap H locs → lv_has ls 3 [(0, .ref h), (1, .int z.2.1), (2, .int z.2.2)] → W p l e ({ frames := 0, cells := 0, slots := 0, locals := 0 } : Room) s m args below meth c H locs 0 0 Q (F0 m 4 ls [])) (hE1 : ∀ (H : Heap) (locs : List Loc) (ls : Array Slot), z.1 = 1 → va_P D vwCl [(h, .inr (0, [.ref q_h_rules, .ref q_h_stuck, .ref q_h_below, .int m_h_size])), (q_h_stuck, aI cy 16 m_h_stuck)] H → va_D A [(h, .inr (0, [.ref q_h_rules, .ref q_h_stuck, .ref q_h_below, .int m_h_size])), (q_h_stuck, aI cy 16 m_h_stuck)] → va_S A s.heap H locs → lv_has ls 3 [(1, .int z.2.1)] → W p l e ({ frames := 0, cells := 0, slots := 0, locals := 0 } : Room) s m args below meth c H locs 0 0 Q (F0 m 33 ls [])) : W p l e ({ frames := 0, cells := 0, slots := 0, locals := 0 } : Room) s m args below meth c H locs 0 0 Q (F0 m 27 ls []) := by
  obtain ⟨hx, hb, hr, hml, hown, hts, hlk, hK, hA, hN⟩ := id C
  unfold f_X0_stuckOnes_J27_4 at hf
  obtain ⟨x27, ex27⟩ : ∃ y : Int32, y = v2 + (1 : Int32) := ⟨_, rfl⟩
  have hf := zl_of hf x27 ex27
  refine lv_iinc (v := x27) (lv' := [(2, .int x27), (0, .ref h), (1, .int v1)]) hx hb dX0_stuckOnes_27 hl (k := 2) rfl (by rw [ex27]; rfl) (by decide) rfl (fun ls hl => ?_)
  refine lv_goto (tgt := 4) hx hb dX0_stuckOnes_30 (by decide) ?_
  obtain rfl := Option.some.inj hf
  exact hE0 _ _ _ rfl hP hD hS (lv_sub hl [1, 2, 0] rfl)
def f_X0_stuckOnes_L4 (m_h_stuck : Nat → Int32) (w : Int32 × Int32) : Option (Nat × (Int32 × Int32)) :=
  if (16 : Int32) ≤ w.2 then
    some (1, (w.1, w.2))
  else
    zc w.2 16 <|
    if (m_h_stuck w.2.toNatClampNeg) = (-4 : Int32) then
      f_X0_stuckOnes_J27_4 w.1 w.2
    else
      zl (w.1 + (1 : Int32)) fun x24 =>
      f_X0_stuckOnes_J27_4 x24 w.2
set_option maxHeartbeats 4000000 in
set_option maxRecDepth 100000 in
theorem k_X0_stuckOnes_L4 {h q_h_rules q_h_stuck q_h_below : Nat} {m_h_size : Int32} {m_h_stuck : Nat → Int32} {w : Int32 × Int32} {z : Nat × (Int32 × Int32)} (C : cx p s m args meth c cX0_stuckOnes 3 (some .int) RX0 D cy A) (hf : f_X0_stuckOnes_L4 m_h_stuck w = some z) (hP : va_P D vwCl [(h, .inr (0, [.ref q_h_rules, .ref q_h_stuck, .ref q_h_below, .int m_h_size])), (q_h_stuck, aI cy 16 m_h_stuck)] H) (hD : va_D A [(h, .inr (0, [.ref q_h_rules, .ref q_h_stuck, .ref q_h_below, .int m_h_size])), (q_h_stuck, aI cy 16 m_h_stuck)]) (hS : va_S A s.heap H locs) (hl : lv_has ls 3 [(0, .ref h), (1, .int w.1), (2, .int w.2)]) (hE0 : ∀ (H : Heap) (locs : List Loc) (ls : Array Slot), z.1 = 0 → va_P D vwCl [(h, .inr (0, [.ref q_h_rules, .ref q_h_stuck, .ref q_h_below, .int m_h_size])), (q_h_stuck, aI cy 16 m_h_stuck)] H → va_D A [(h, .inr (0, [.ref q_h_rules, .ref q_h_stuck, .ref q_h_below, .int m_h_size])), (q_h_stuck, aI cy 16 m_h_stuck)] → va_S A s.heap H locs → lv_has ls 3 [(0, .ref h), (1, .int z.2.1), (2, .int z.2.2)] → W p l e ({ frames := 0, cells := 0, slots := 0, locals := 0 } : Room) s m args below meth c H locs 0 0 Q (F0 m 4 ls [])) (hE1 : ∀ (H : Heap) (locs : List Loc) (ls : Array Slot), z.1 = 1 → va_P D vwCl [(h, .inr (0, [.ref q_h_rules, .ref q_h_stuck, .ref q_h_below, .int m_h_size])), (q_h_stuck, aI cy 16 m_h_stuck)] H → va_D A [(h, .inr (0, [.ref q_h_rules, .ref q_h_stuck, .ref q_h_below, .int m_h_size])), (q_h_stuck, aI cy 16 m_h_stuck)] → va_S A s.heap H locs → lv_has ls 3 [(1, .int z.2.1)] → W p l e ({ frames := 0, cells := 0, slots := 0, locals := 0 } : Room) s m args below meth c H locs 0 0 Q (F0 m 33 ls [])) : W p l e ({ frames := 0, cells := 0, slots := 0, locals := 0 } : Room) s m args below meth c H locs 0 0 Q (F0 m 4 ls []) := by
  obtain ⟨hx, hb, hr, hml, hown, hts, hlk, hK, hA, hN⟩ := id C
  unfold f_X0_stuckOnes_L4 at hf
  refine lv_iload_n hx hb dX0_stuckOnes_4 rfl (lv_at hl 2 rfl) ?_
  refine lv_aload_n hx hb dX0_stuckOnes_5 rfl (lv_at hl 0 rfl) ?_
  refine va_get (D := D) (ci := 0) (v := .ref q_h_stuck) (C := RX0) (T := TX0) (N := 4) hx hb hts ui_X0 hown hK hP 0 rfl rfl 1 (by decide) (hts _ fl_X0_11) (fun _ h9 => h9) rfl dX0_stuckOnes_6 ?_
  refine va_alen (v := (16 : Int32)) hx hb hK hP 1 1 rfl rfl rfl dX0_stuckOnes_9 ?_
  refine lv_icmp_ge (tgt := 33) hx hb dX0_stuckOnes_10 (by decide) (fun c10 => ?_) (fun c10 => ?_)
  · have hf := zt c10 hf
    obtain rfl := Option.some.inj hf
    exact hE1 _ _ _ rfl hP hD hS (lv_sub hl [1] rfl)
  · have hf := zf c10 hf
    refine lv_aload_n hx hb dX0_stuckOnes_13 rfl (lv_at hl 0 rfl) ?_
    refine va_get (D := D) (ci := 0) (v := .ref q_h_stuck) (C := RX0) (T := TX0) (N := 4) hx hb hts ui_X0 hown hK hP 0 rfl rfl 1 (by decide) (hts _ fl_X0_11) (fun _ h9 => h9) rfl dX0_stuckOnes_14 ?_
    refine lv_iload_n hx hb dX0_stuckOnes_17 rfl (lv_at hl 2 rfl) ?_
    obtain ⟨hin, hf⟩ := zc_of hf
    refine va_iald hx hb hK hP 1 1 rfl rfl hin dX0_stuckOnes_18 ?_
    refine lv_bipush (v := -4) hx hb dX0_stuckOnes_19 (by decide) ?_
    refine lv_icmp_eq (tgt := 27) hx hb dX0_stuckOnes_21 (by decide) (fun c21 => ?_) (fun c21 => ?_)
    · have hf := zt c21 hf
      exact k_X0_stuckOnes_J27_4 C hf hP hD hS (lv_sub hl [0, 1, 2] rfl) hE0 hE1
    · have hf := zf c21 hf
      obtain ⟨x24, ex24⟩ : ∃ y : Int32, y = w.1 + (1 : Int32) := ⟨_, rfl⟩
      have hf := zl_of hf x24 ex24
      refine lv_iinc (v := x24) (lv' := [(1, .int x24), (0, .ref h), (2, .int w.2)]) hx hb dX0_stuckOnes_24 hl (k := 1) rfl (by rw [ex24]; rfl) (by decide) rfl (fun ls hl => ?_)
      exact k_X0_stuckOnes_J27_4 C hf hP hD hS (lv_sub hl [1, 0, 2] rfl) hE0 hE1
set_option maxHeartbeats 4000000 in
set_option maxRecDepth 100000 in
theorem kl_X0_stuckOnes_L4 {h q_h_rules q_h_stuck q_h_below : Nat} {m_h_size : Int32} {m_h_stuck : Nat → Int32} (C : cx p s m args meth c cX0_stuckOnes 3 (some .int) RX0 D cy A) : ∀ (n : Nat) (w : Int32 × Int32) (z : Nat × (Int32 × Int32)) (H : Heap) (locs : List Loc) (ls : Array Slot), zp (f_X0_stuckOnes_L4 m_h_stuck) n w = some z → va_P D vwCl [(h, .inr (0, [.ref q_h_rules, .ref q_h_stuck, .ref q_h_below, .int m_h_size])), (q_h_stuck, aI cy 16 m_h_stuck)] H → va_D A [(h, .inr (0, [.ref q_h_rules, .ref q_h_stuck, .ref q_h_below, .int m_h_size])), (q_h_stuck, aI cy 16 m_h_stuck)] → va_S A s.heap H locs → lv_has ls 3 [(0, .ref h), (1, .int w.1), (2, .int w.2)] → (∀ (H : Heap) (locs : List Loc) (ls : Array Slot), z.1 = 1 → va_P D vwCl [(h, .inr (0, [.ref q_h_rules, .ref q_h_stuck, .ref q_h_below, .int m_h_size])), (q_h_stuck, aI cy 16 m_h_stuck)] H → va_D A [(h, .inr (0, [.ref q_h_rules, .ref q_h_stuck, .ref q_h_below, .int m_h_size])), (q_h_stuck, aI cy 16 m_h_stuck)] → va_S A s.heap H locs → lv_has ls 3 [(1, .int z.2.1)] → W p l e ({ frames := 0, cells := 0, slots := 0, locals := 0 } : Room) s m args below meth c H locs 0 0 Q (F0 m 33 ls [])) → W p l e ({ frames := 0, cells := 0, slots := 0, locals := 0 } : Room) s m args below meth c H locs 0 0 Q (F0 m 4 ls []) := by
  intro n
  induction n with
  | zero => intro w z H locs ls hf; cases hf
  | succ n ih =>
    intro w z H locs ls hf hP hD hS hl hE1
    obtain ⟨w1, hw, hd⟩ := zp_s hf
    refine k_X0_stuckOnes_L4 C hw hP hD hS hl (fun H locs ls h0 hP hD hS hl => ?_) (fun H locs ls h0 hP hD hS hl => ?_)
    · rcases hd with ⟨_, h⟩ | ⟨h, _⟩
      · exact ih _ _ _ _ _ h hP hD hS hl hE1
      · exact absurd h0 h
    · rcases hd with ⟨h, _⟩ | ⟨_, h⟩
      · exact absurd (h.symm.trans h0) (by decide)
      · subst h; exact hE1 _ _ _ h0 hP hD hS hl
def f_X0_stuckOnes (m_h_stuck : Nat → Int32) : Option (Int32) :=
  zb (zp (f_X0_stuckOnes_L4 m_h_stuck) zF ((0 : Int32), (1 : Int32))) fun z4 =>
  some z4.2.1
set_option maxHeartbeats 4000000 in
set_option maxRecDepth 100000 in
theorem k_X0_stuckOnes {h q_h_rules q_h_stuck q_h_below : Nat} {m_h_size : Int32} {m_h_stuck : Nat → Int32} {z : Int32} (C : cx p s m args meth c cX0_stuckOnes 3 (some .int) RX0 D cy A) (hf : f_X0_stuckOnes m_h_stuck = some z) (hP : va_P D vwCl [(h, .inr (0, [.ref q_h_rules, .ref q_h_stuck, .ref q_h_below, .int m_h_size])), (q_h_stuck, aI cy 16 m_h_stuck)] H) (hD : va_D A [(h, .inr (0, [.ref q_h_rules, .ref q_h_stuck, .ref q_h_below, .int m_h_size])), (q_h_stuck, aI cy 16 m_h_stuck)]) (hS : va_S A s.heap H locs) (hl : lv_has ls 3 [(0, .ref h)]) : W p l e ({ frames := 0, cells := 0, slots := 0, locals := 0 } : Room) s m args below meth c H locs 0 0 (MQ below (kqi D cy [(h, .inr (0, [.ref q_h_rules, .ref q_h_stuck, .ref q_h_below, .int m_h_size])), (q_h_stuck, aI cy 16 m_h_stuck)] z A) args s 0 0 A) (F0 m 0 ls []) := by
  obtain ⟨hx, hb, hr, hml, hown, hts, hlk, hK, hA, hN⟩ := id C
  unfold f_X0_stuckOnes at hf
  refine lv_iconst (v := 0) hx hb dX0_stuckOnes_0 (by decide) ?_
  refine lv_istore_n (lv' := [(1, .int (0 : Int32)), (0, .ref h)]) hx hb dX0_stuckOnes_1 rfl hl (by decide) rfl (fun ls hl => ?_)
  refine lv_iconst (v := 1) hx hb dX0_stuckOnes_2 (by decide) ?_
  refine lv_istore_n (lv' := [(2, .int (1 : Int32)), (1, .int (0 : Int32)), (0, .ref h)]) hx hb dX0_stuckOnes_3 rfl hl (by decide) rfl (fun ls hl => ?_)
  obtain ⟨z4, hz4, hf⟩ := zb_of hf
  refine kl_X0_stuckOnes_L4 C _ _ _ _ _ _ hz4 hP hD hS (lv_sub hl [2, 1, 0] rfl) (fun H locs ls h0 hP hD hS hl => ?_)
  refine lv_iload_n hx hb dX0_stuckOnes_33 rfl (lv_at hl 0 rfl) ?_
  obtain rfl := Option.some.inj hf
  exact ret_i C hP hD hS dX0_stuckOnes_34
set_option maxRecDepth 100000 in
theorem c_X0_stuckOnes (l : Launch) (D : va_G) (cy : Nat → ClassId) (sz : Nat) (h q_h_rules q_h_stuck q_h_below : Nat) (m_h_size : Int32) (m_h_stuck : Nat → Int32) {z : Int32} (hf : f_X0_stuckOnes m_h_stuck = some z) : Met l yX0_stuckOnes (.code yX0_stuckOnes cX0_stuckOnes 3 (some .int) :: tb) ({ frames := 0, cells := 0, slots := 0, locals := 0 } : Room) (kp D cy sz [.ref h] [(h, .inr (0, [.ref q_h_rules, .ref q_h_stuck, .ref q_h_below, .int m_h_size])), (q_h_stuck, aI cy 16 m_h_stuck)]) (kqi D cy [(h, .inr (0, [.ref q_h_rules, .ref q_h_stuck, .ref q_h_below, .int m_h_size])), (q_h_stuck, aI cy 16 m_h_stuck)] z (va_A [(h, .inr (0, [.ref q_h_rules, .ref q_h_stuck, .ref q_h_below, .int m_h_size])), (q_h_stuck, aI cy 16 m_h_stuck)] sz)) 0 0 (va_A [(h, .inr (0, [.ref q_h_rules, .ref q_h_stuck, .ref q_h_below, .int m_h_size])), (q_h_stuck, aI cy 16 m_h_stuck)] sz) :=
  met_of (fun A => kqi D cy [(h, .inr (0, [.ref q_h_rules, .ref q_h_stuck, .ref q_h_below, .int m_h_size])), (q_h_stuck, aI cy 16 m_h_stuck)] z A) (by decide +kernel) (Nat.le_of_ble_eq_true rfl) (fun p e s m below meth c A ls C hP hD hS hl => k_X0_stuckOnes C hf hP hD hS hl)
theorem hd_X0_stuckOnes : yX0_stuckOnes.cls ≠ "java/lang/invoke/MethodHandle" ∧ yX0_stuckOnes.cls ≠ "java/lang/invoke/VarHandle" ∧ (parseMethodDescriptor yX0_stuckOnes.desc).map (fun d => d.parameters.length) = some 0 := by decide +kernel
def f_X0_sumResistors_L9 (m_h_size : Int32) (m_h_rules_resistors : Nat → Int32) (w : Int32 × (Nat → Int32)) : Option (Nat × (Int32 × (Nat → Int32))) :=
  if m_h_size ≤ w.1 then
    some (1, (w.1, w.2))
  else
    if (17 : Int32) ≤ (w.1 + (1 : Int32)) then
      some (1, (w.1, w.2))
    else
      zc w.1 17 <|
      zb (f_X5_resistorAt w.1 m_h_rules_resistors) fun z46 =>
      zl ((w.2 w.1.toNatClampNeg) + z46) fun x50 =>
      zc (w.1 + (1 : Int32)) 17 <|
      zl (upd w.2 (w.1 + (1 : Int32)).toNatClampNeg x50) fun a50 =>
      zl (w.1 + (1 : Int32)) fun x51 =>
      some (0, (x51, a50))
set_option maxHeartbeats 4000000 in
set_option maxRecDepth 100000 in
theorem k_X0_sumResistors_L9 {h q_h_rules q_h_stuck q_h_below q_h_rules_misses q_h_rules_resistors : Nat} {m_h_size : Int32} {m_h_rules_bits : Int32} {m_h_rules_unit : Int32} {m_h_rules_offset : Int32} {m_h_rules_lean : Int32} {m_h_rules_ref : Int32} {m_h_rules_top : Int32} {m_h_rules_resistors : Nat → Int32} {w : Int32 × (Nat → Int32)} {z : Nat × (Int32 × (Nat → Int32))} (C : cx p s m args meth c cX0_sumResistors 3 none RX0 D cy A) (hf : f_X0_sumResistors_L9 m_h_size m_h_rules_resistors w = some z) (hP : va_P D vwCl [(h, .inr (0, [.ref q_h_rules, .ref q_h_stuck, .ref q_h_below, .int m_h_size])), (q_h_rules, .inr (5, [.int m_h_rules_bits, .int m_h_rules_unit, .int m_h_rules_offset, .int m_h_rules_lean, .int m_h_rules_ref, .int m_h_rules_top, .ref q_h_rules_misses, .ref q_h_rules_resistors])), (q_h_rules_resistors, aI cy 16 m_h_rules_resistors), (q_h_below, aI cy 17 w.2)] H) (hD : va_D A [(h, .inr (0, [.ref q_h_rules, .ref q_h_stuck, .ref q_h_below, .int m_h_size])), (q_h_rules, .inr (5, [.int m_h_rules_bits, .int m_h_rules_unit, .int m_h_rules_offset, .int m_h_rules_lean, .int m_h_rules_ref, .int m_h_rules_top, .ref q_h_rules_misses, .ref q_h_rules_resistors])), (q_h_rules_resistors, aI cy 16 m_h_rules_resistors), (q_h_below, aI cy 17 w.2)]) (hS : va_S A s.heap H locs) (hl : lv_has ls 3 [(0, .ref h), (2, .int w.1)]) (hE0 : ∀ (H : Heap) (locs : List Loc) (ls : Array Slot), z.1 = 0 → va_P D vwCl [(h, .inr (0, [.ref q_h_rules, .ref q_h_stuck, .ref q_h_below, .int m_h_size])), (q_h_rules, .inr (5, [.int m_h_rules_bits, .int m_h_rules_unit, .int m_h_rules_offset, .int m_h_rules_lean, .int m_h_rules_ref, .int m_h_rules_top, .ref q_h_rules_misses, .ref q_h_rules_resistors])), (q_h_rules_resistors, aI cy 16 m_h_rules_resistors), (q_h_below, aI cy 17 z.2.2)] H → va_D A [(h, .inr (0, [.ref q_h_rules, .ref q_h_stuck, .ref q_h_below, .int m_h_size])), (q_h_rules, .inr (5, [.int m_h_rules_bits, .int m_h_rules_unit, .int m_h_rules_offset, .int m_h_rules_lean, .int m_h_rules_ref, .int m_h_rules_top, .ref q_h_rules_misses, .ref q_h_rules_resistors])), (q_h_rules_resistors, aI cy 16 m_h_rules_resistors), (q_h_below, aI cy 17 z.2.2)] → va_S A s.heap H locs → lv_has ls 3 [(0, .ref h), (2, .int z.2.1)] → W p l e ({ frames := 1, cells := 0, slots := 0, locals := 21 } : Room) s m args below meth c H locs 0 0 Q (F0 m 9 ls [])) (hE1 : ∀ (H : Heap) (locs : List Loc) (ls : Array Slot), z.1 = 1 → va_P D vwCl [(h, .inr (0, [.ref q_h_rules, .ref q_h_stuck, .ref q_h_below, .int m_h_size])), (q_h_rules, .inr (5, [.int m_h_rules_bits, .int m_h_rules_unit, .int m_h_rules_offset, .int m_h_rules_lean, .int m_h_rules_ref, .int m_h_rules_top, .ref q_h_rules_misses, .ref q_h_rules_resistors])), (q_h_rules_resistors, aI cy 16 m_h_rules_resistors), (q_h_below, aI cy 17 z.2.2)] H → va_D A [(h, .inr (0, [.ref q_h_rules, .ref q_h_stuck, .ref q_h_below, .int m_h_size])), (q_h_rules, .inr (5, [.int m_h_rules_bits, .int m_h_rules_unit, .int m_h_rules_offset, .int m_h_rules_lean, .int m_h_rules_ref, .int m_h_rules_top, .ref q_h_rules_misses, .ref q_h_rules_resistors])), (q_h_rules_resistors, aI cy 16 m_h_rules_resistors), (q_h_below, aI cy 17 z.2.2)] → va_S A s.heap H locs → lv_has ls 3 [] → W p l e ({ frames := 1, cells := 0, slots := 0, locals := 21 } : Room) s m args below meth c H locs 0 0 Q (F0 m 57 ls [])) : W p l e ({ frames := 1, cells := 0, slots := 0, locals := 21 } : Room) s m args below meth c H locs 0 0 Q (F0 m 9 ls []) := by
  obtain ⟨hx, hb, hr, hml, hown, hts, hlk, hK, hA, hN⟩ := id C
  unfold f_X0_sumResistors_L9 at hf
  refine lv_iload_n hx hb dX0_sumResistors_9 rfl (lv_at hl 1 rfl) ?_
  refine lv_aload_n hx hb dX0_sumResistors_10 rfl (lv_at hl 0 rfl) ?_
  refine va_get (D := D) (ci := 0) (v := .int m_h_size) (C := RX0) (T := TX0) (N := 4) hx hb hts ui_X0 hown hK hP 0 rfl rfl 3 (by decide) (hts _ fl_X0_20) (fun _ h9 => h9) rfl dX0_sumResistors_11 ?_
  refine lv_icmp_ge (tgt := 57) hx hb dX0_sumResistors_14 (by decide) (fun c14 => ?_) (fun c14 => ?_)
  · have hf := zt c14 hf
    obtain rfl := Option.some.inj hf
    exact hE1 _ _ _ rfl hP hD hS (lv_sub hl [] rfl)
  · have hf := zf c14 hf
    refine lv_iload_n hx hb dX0_sumResistors_17 rfl (lv_at hl 1 rfl) ?_
    refine lv_iconst (v := 1) hx hb dX0_sumResistors_18 (by decide) ?_
    refine lv_iadd hx hb dX0_sumResistors_19 ?_
    refine lv_aload_n hx hb dX0_sumResistors_20 rfl (lv_at hl 0 rfl) ?_
    refine va_get (D := D) (ci := 0) (v := .ref q_h_below) (C := RX0) (T := TX0) (N := 4) hx hb hts ui_X0 hown hK hP 0 rfl rfl 2 (by decide) (hts _ fl_X0_17) (fun _ h9 => h9) rfl dX0_sumResistors_21 ?_
    refine va_alen (v := (17 : Int32)) hx hb hK hP 3 1 rfl rfl rfl dX0_sumResistors_24 ?_
    refine lv_icmp_ge (tgt := 57) hx hb dX0_sumResistors_25 (by decide) (fun c25 => ?_) (fun c25 => ?_)
    · have hf := zt c25 hf
      obtain rfl := Option.some.inj hf
      exact hE1 _ _ _ rfl hP hD hS (lv_sub hl [] rfl)
    · have hf := zf c25 hf
      refine lv_aload_n hx hb dX0_sumResistors_28 rfl (lv_at hl 0 rfl) ?_
      refine va_get (D := D) (ci := 0) (v := .ref q_h_below) (C := RX0) (T := TX0) (N := 4) hx hb hts ui_X0 hown hK hP 0 rfl rfl 2 (by decide) (hts _ fl_X0_17) (fun _ h9 => h9) rfl dX0_sumResistors_29 ?_
      refine lv_iload_n hx hb dX0_sumResistors_32 rfl (lv_at hl 1 rfl) ?_
      refine lv_iconst (v := 1) hx hb dX0_sumResistors_33 (by decide) ?_
      refine lv_iadd hx hb dX0_sumResistors_34 ?_
      refine lv_aload_n hx hb dX0_sumResistors_35 rfl (lv_at hl 0 rfl) ?_
      refine va_get (D := D) (ci := 0) (v := .ref q_h_below) (C := RX0) (T := TX0) (N := 4) hx hb hts ui_X0 hown hK hP 0 rfl rfl 2 (by decide) (hts _ fl_X0_17) (fun _ h9 => h9) rfl dX0_sumResistors_36 ?_
      refine lv_iload_n hx hb dX0_sumResistors_39 rfl (lv_at hl 1 rfl) ?_
      obtain ⟨hin, hf⟩ := zc_of hf
      refine va_iald hx hb hK hP 3 1 rfl rfl hin dX0_sumResistors_40 ?_
      refine lv_aload_n hx hb dX0_sumResistors_41 rfl (lv_at hl 0 rfl) ?_
      refine va_get (D := D) (ci := 0) (v := .ref q_h_rules) (C := RX0) (T := TX0) (N := 4) hx hb hts ui_X0 hown hK hP 0 rfl rfl 0 (by decide) (hts _ fl_X0_24) (fun _ h9 => h9) rfl dX0_sumResistors_42 ?_
      refine lv_iload_n hx hb dX0_sumResistors_45 rfl (lv_at hl 1 rfl) ?_
      obtain ⟨z46, hz46, hf⟩ := zb_of hf
      refine goI (wr := [(h, .inr (0, [.ref q_h_rules, .ref q_h_stuck, .ref q_h_below, .int m_h_size])), (q_h_below, aI cy 17 w.2)]) (ws' := [(h, .inr (0, [.ref q_h_rules, .ref q_h_stuck, .ref q_h_below, .int m_h_size])), (q_h_rules, .inr (5, [.int m_h_rules_bits, .int m_h_rules_unit, .int m_h_rules_offset, .int m_h_rules_lean, .int m_h_rules_ref, .int m_h_rules_top, .ref q_h_rules_misses, .ref q_h_rules_resistors])), (q_h_rules_resistors, aI cy 16 m_h_rules_resistors), (q_h_below, aI cy 17 w.2)]) C (runV (n := 1) (As := [.int w.1]) (rest := [.int (w.2 w.1.toNatClampNeg), .int (w.1 + (1 : Int32)), .ref q_h_below]) C (c_X5_resistorAt l D cy H.size q_h_rules q_h_rules_misses q_h_rules_resistors w.1 m_h_rules_bits m_h_rules_unit m_h_rules_offset m_h_rules_lean m_h_rules_ref m_h_rules_top m_h_rules_resistors hz46) ml_X0_42 im_X5_resistorAt se_X5_resistorAt ii_X5 cd_X5_resistorAt hd_X5_resistorAt rfl rfl ⟨Nat.le_of_ble_eq_true rfl, Nat.le_of_ble_eq_true rfl⟩ (hP.sub [1, 2] rfl) (hD.sub [1, 2] (by decide) rfl) hS rfl rfl rfl hl.1 rfl (Nat.le_of_ble_eq_true rfl) dX0_sumResistors_46) hP hD hS [1, 2] [0, 3] [0, 2, 3, 1] rfl rfl (by decide) (by decide) rfl (by decide) (fun H locs hP hD hS => ?_)
      refine lv_iadd hx hb dX0_sumResistors_49 ?_
      refine lv_topi (fun x50 ex50 => ?_)
      have hf := zl_of hf x50 ex50
      obtain ⟨hin, hf⟩ := zc_of hf
      obtain ⟨a50, ea50⟩ : ∃ y : Nat → Int32, y = upd w.2 (w.1 + (1 : Int32)).toNatClampNeg x50 := ⟨_, rfl⟩
      have hf := zl_of hf a50 ea50
      refine va_iast hx hb hK hP hD hS 3 1 rfl rfl hin dX0_sumResistors_50 (fun H locs hP hD hS => ?_)
      rw [← ea50] at hP hD
      have hP : va_P D vwCl [(h, .inr (0, [.ref q_h_rules, .ref q_h_stuck, .ref q_h_below, .int m_h_size])), (q_h_rules, .inr (5, [.int m_h_rules_bits, .int m_h_rules_unit, .int m_h_rules_offset, .int m_h_rules_lean, .int m_h_rules_ref, .int m_h_rules_top, .ref q_h_rules_misses, .ref q_h_rules_resistors])), (q_h_rules_resistors, aI cy 16 m_h_rules_resistors), (q_h_below, aI cy 17 a50)] H := hP
      have hD : va_D A [(h, .inr (0, [.ref q_h_rules, .ref q_h_stuck, .ref q_h_below, .int m_h_size])), (q_h_rules, .inr (5, [.int m_h_rules_bits, .int m_h_rules_unit, .int m_h_rules_offset, .int m_h_rules_lean, .int m_h_rules_ref, .int m_h_rules_top, .ref q_h_rules_misses, .ref q_h_rules_resistors])), (q_h_rules_resistors, aI cy 16 m_h_rules_resistors), (q_h_below, aI cy 17 a50)] := hD
      obtain ⟨x51, ex51⟩ : ∃ y : Int32, y = w.1 + (1 : Int32) := ⟨_, rfl⟩
      have hf := zl_of hf x51 ex51
      refine lv_iinc (v := x51) (lv' := [(2, .int x51), (0, .ref h)]) hx hb dX0_sumResistors_51 hl (k := 1) rfl (by rw [ex51]; rfl) (by decide) rfl (fun ls hl => ?_)
      refine lv_goto (tgt := 9) hx hb dX0_sumResistors_54 (by decide) ?_
      obtain rfl := Option.some.inj hf
      exact hE0 _ _ _ rfl hP hD hS (lv_sub hl [1, 0] rfl)
set_option maxHeartbeats 4000000 in
set_option maxRecDepth 100000 in
theorem kl_X0_sumResistors_L9 {h q_h_rules q_h_stuck q_h_below q_h_rules_misses q_h_rules_resistors : Nat} {m_h_size : Int32} {m_h_rules_bits : Int32} {m_h_rules_unit : Int32} {m_h_rules_offset : Int32} {m_h_rules_lean : Int32} {m_h_rules_ref : Int32} {m_h_rules_top : Int32} {m_h_rules_resistors : Nat → Int32} (C : cx p s m args meth c cX0_sumResistors 3 none RX0 D cy A) : ∀ (n : Nat) (w : Int32 × (Nat → Int32)) (z : Nat × (Int32 × (Nat → Int32))) (H : Heap) (locs : List Loc) (ls : Array Slot), zp (f_X0_sumResistors_L9 m_h_size m_h_rules_resistors) n w = some z → va_P D vwCl [(h, .inr (0, [.ref q_h_rules, .ref q_h_stuck, .ref q_h_below, .int m_h_size])), (q_h_rules, .inr (5, [.int m_h_rules_bits, .int m_h_rules_unit, .int m_h_rules_offset, .int m_h_rules_lean, .int m_h_rules_ref, .int m_h_rules_top, .ref q_h_rules_misses, .ref q_h_rules_resistors])), (q_h_rules_resistors, aI cy 16 m_h_rules_resistors), (q_h_below, aI cy 17 w.2)] H → va_D A [(h, .inr (0, [.ref q_h_rules, .ref q_h_stuck, .ref q_h_below, .int m_h_size])), (q_h_rules, .inr (5, [.int m_h_rules_bits, .int m_h_rules_unit, .int m_h_rules_offset, .int m_h_rules_lean, .int m_h_rules_ref, .int m_h_rules_top, .ref q_h_rules_misses, .ref q_h_rules_resistors])), (q_h_rules_resistors, aI cy 16 m_h_rules_resistors), (q_h_below, aI cy 17 w.2)] → va_S A s.heap H locs → lv_has ls 3 [(0, .ref h), (2, .int w.1)] → (∀ (H : Heap) (locs : List Loc) (ls : Array Slot), z.1 = 1 → va_P D vwCl [(h, .inr (0, [.ref q_h_rules, .ref q_h_stuck, .ref q_h_below, .int m_h_size])), (q_h_rules, .inr (5, [.int m_h_rules_bits, .int m_h_rules_unit, .int m_h_rules_offset, .int m_h_rules_lean, .int m_h_rules_ref, .int m_h_rules_top, .ref q_h_rules_misses, .ref q_h_rules_resistors])), (q_h_rules_resistors, aI cy 16 m_h_rules_resistors), (q_h_below, aI cy 17 z.2.2)] H → va_D A [(h, .inr (0, [.ref q_h_rules, .ref q_h_stuck, .ref q_h_below, .int m_h_size])), (q_h_rules, .inr (5, [.int m_h_rules_bits, .int m_h_rules_unit, .int m_h_rules_offset, .int m_h_rules_lean, .int m_h_rules_ref, .int m_h_rules_top, .ref q_h_rules_misses, .ref q_h_rules_resistors])), (q_h_rules_resistors, aI cy 16 m_h_rules_resistors), (q_h_below, aI cy 17 z.2.2)] → va_S A s.heap H locs → lv_has ls 3 [] → W p l e ({ frames := 1, cells := 0, slots := 0, locals := 21 } : Room) s m args below meth c H locs 0 0 Q (F0 m 57 ls [])) → W p l e ({ frames := 1, cells := 0, slots := 0, locals := 21 } : Room) s m args below meth c H locs 0 0 Q (F0 m 9 ls []) := by
  intro n
  induction n with
  | zero => intro w z H locs ls hf; cases hf
  | succ n ih =>
    intro w z H locs ls hf hP hD hS hl hE1
    obtain ⟨w1, hw, hd⟩ := zp_s hf
    refine k_X0_sumResistors_L9 C hw hP hD hS hl (fun H locs ls h0 hP hD hS hl => ?_) (fun H locs ls h0 hP hD hS hl => ?_)
    · rcases hd with ⟨_, h⟩ | ⟨h, _⟩
      · exact ih _ _ _ _ _ h hP hD hS hl hE1
      · exact absurd h0 h
    · rcases hd with ⟨h, _⟩ | ⟨_, h⟩
      · exact absurd (h.symm.trans h0) (by decide)
      · subst h; exact hE1 _ _ _ h0 hP hD hS hl
def f_X0_sumResistors (v1 : Int32) (m_h_rules_resistors : Nat → Int32) (m_h_below : Nat → Int32) : Option (Int32 × (Nat → Int32)) :=
  zl ((1 : Int32) <<< (v1 &&& 31)) fun x4 =>
  zb (zp (f_X0_sumResistors_L9 x4 m_h_rules_resistors) zF ((0 : Int32), m_h_below)) fun z9 =>
  some (x4, z9.2.2)
set_option maxHeartbeats 4000000 in
set_option maxRecDepth 100000 in
theorem k_X0_sumResistors {h q_h_rules q_h_stuck q_h_below q_h_rules_misses q_h_rules_resistors : Nat} {v1 : Int32} {m_h_size : Int32} {m_h_rules_bits : Int32} {m_h_rules_unit : Int32} {m_h_rules_offset : Int32} {m_h_rules_lean : Int32} {m_h_rules_ref : Int32} {m_h_rules_top : Int32} {m_h_rules_resistors : Nat → Int32} {m_h_below : Nat → Int32} {z : Int32 × (Nat → Int32)} (C : cx p s m args meth c cX0_sumResistors 3 none RX0 D cy A) (hf : f_X0_sumResistors v1 m_h_rules_resistors m_h_below = some z) (hP : va_P D vwCl [(h, .inr (0, [.ref q_h_rules, .ref q_h_stuck, .ref q_h_below, .int m_h_size])), (q_h_rules, .inr (5, [.int m_h_rules_bits, .int m_h_rules_unit, .int m_h_rules_offset, .int m_h_rules_lean, .int m_h_rules_ref, .int m_h_rules_top, .ref q_h_rules_misses, .ref q_h_rules_resistors])), (q_h_rules_resistors, aI cy 16 m_h_rules_resistors), (q_h_below, aI cy 17 m_h_below)] H) (hD : va_D A [(h, .inr (0, [.ref q_h_rules, .ref q_h_stuck, .ref q_h_below, .int m_h_size])), (q_h_rules, .inr (5, [.int m_h_rules_bits, .int m_h_rules_unit, .int m_h_rules_offset, .int m_h_rules_lean, .int m_h_rules_ref, .int m_h_rules_top, .ref q_h_rules_misses, .ref q_h_rules_resistors])), (q_h_rules_resistors, aI cy 16 m_h_rules_resistors), (q_h_below, aI cy 17 m_h_below)]) (hS : va_S A s.heap H locs) (hl : lv_has ls 3 [(0, .ref h), (1, .int v1)]) : W p l e ({ frames := 1, cells := 0, slots := 0, locals := 21 } : Room) s m args below meth c H locs 0 0 (MQ below (kqv D cy [(h, .inr (0, [.ref q_h_rules, .ref q_h_stuck, .ref q_h_below, .int z.1])), (q_h_rules, .inr (5, [.int m_h_rules_bits, .int m_h_rules_unit, .int m_h_rules_offset, .int m_h_rules_lean, .int m_h_rules_ref, .int m_h_rules_top, .ref q_h_rules_misses, .ref q_h_rules_resistors])), (q_h_rules_resistors, aI cy 16 m_h_rules_resistors), (q_h_below, aI cy 17 z.2)] A) args s 0 0 A) (F0 m 0 ls []) := by
  obtain ⟨hx, hb, hr, hml, hown, hts, hlk, hK, hA, hN⟩ := id C
  unfold f_X0_sumResistors at hf
  refine lv_aload_n hx hb dX0_sumResistors_0 rfl (lv_at hl 0 rfl) ?_
  refine lv_iconst (v := 1) hx hb dX0_sumResistors_1 (by decide) ?_
  refine lv_iload_n hx hb dX0_sumResistors_2 rfl (lv_at hl 1 rfl) ?_
  refine lv_ishl hx hb dX0_sumResistors_3 ?_
  refine lv_topi (fun x4 ex4 => ?_)
  have hf := zl_of hf x4 ex4
  refine va_put (D := D) (ci := 0) (v := .int x4) (ty := .int) (C := RX0) (T := TX0) (N := 4) hx hb hts ui_X0 tyX0 tyX0_ok nmX0 hown hK hP hD hS 0 rfl rfl 3 (by decide) (hts _ fl_X0_20) (fun _ h9 => h9) rfl rfl rfl rfl (Nat.le_of_ble_eq_true rfl) dX0_sumResistors_4 (fun H locs hP hD hS => ?_)
  have hP : va_P D vwCl [(h, .inr (0, [.ref q_h_rules, .ref q_h_stuck, .ref q_h_below, .int x4])), (q_h_rules, .inr (5, [.int m_h_rules_bits, .int m_h_rules_unit, .int m_h_rules_offset, .int m_h_rules_lean, .int m_h_rules_ref, .int m_h_rules_top, .ref q_h_rules_misses, .ref q_h_rules_resistors])), (q_h_rules_resistors, aI cy 16 m_h_rules_resistors), (q_h_below, aI cy 17 m_h_below)] H := hP
  have hD : va_D A [(h, .inr (0, [.ref q_h_rules, .ref q_h_stuck, .ref q_h_below, .int x4])), (q_h_rules, .inr (5, [.int m_h_rules_bits, .int m_h_rules_unit, .int m_h_rules_offset, .int m_h_rules_lean, .int m_h_rules_ref, .int m_h_rules_top, .ref q_h_rules_misses, .ref q_h_rules_resistors])), (q_h_rules_resistors, aI cy 16 m_h_rules_resistors), (q_h_below, aI cy 17 m_h_below)] := hD
  refine lv_iconst (v := 0) hx hb dX0_sumResistors_7 (by decide) ?_
  refine lv_istore_n (lv' := [(2, .int (0 : Int32)), (0, .ref h), (1, .int v1)]) hx hb dX0_sumResistors_8 rfl hl (by decide) rfl (fun ls hl => ?_)
  obtain ⟨z9, hz9, hf⟩ := zb_of hf
  refine kl_X0_sumResistors_L9 C _ _ _ _ _ _ hz9 hP hD hS (lv_sub hl [1, 0] rfl) (fun H locs ls h0 hP hD hS hl => ?_)
  obtain rfl := Option.some.inj hf
  exact ret_v C hP hD hS dX0_sumResistors_57
set_option maxRecDepth 100000 in
theorem c_X0_sumResistors (l : Launch) (D : va_G) (cy : Nat → ClassId) (sz : Nat) (h q_h_rules q_h_stuck q_h_below q_h_rules_misses q_h_rules_resistors : Nat) (v1 : Int32) (m_h_size : Int32) (m_h_rules_bits : Int32) (m_h_rules_unit : Int32) (m_h_rules_offset : Int32) (m_h_rules_lean : Int32) (m_h_rules_ref : Int32) (m_h_rules_top : Int32) (m_h_rules_resistors : Nat → Int32) (m_h_below : Nat → Int32) {z : Int32 × (Nat → Int32)} (hf : f_X0_sumResistors v1 m_h_rules_resistors m_h_below = some z) : Met l yX0_sumResistors (.code yX0_sumResistors cX0_sumResistors 3 none :: tb) ({ frames := 1, cells := 0, slots := 0, locals := 21 } : Room) (kp D cy sz [.ref h, .int v1] [(h, .inr (0, [.ref q_h_rules, .ref q_h_stuck, .ref q_h_below, .int m_h_size])), (q_h_rules, .inr (5, [.int m_h_rules_bits, .int m_h_rules_unit, .int m_h_rules_offset, .int m_h_rules_lean, .int m_h_rules_ref, .int m_h_rules_top, .ref q_h_rules_misses, .ref q_h_rules_resistors])), (q_h_rules_resistors, aI cy 16 m_h_rules_resistors), (q_h_below, aI cy 17 m_h_below)]) (kqv D cy [(h, .inr (0, [.ref q_h_rules, .ref q_h_stuck, .ref q_h_below, .int z.1])), (q_h_rules, .inr (5, [.int m_h_rules_bits, .int m_h_rules_unit, .int m_h_rules_offset, .int m_h_rules_lean, .int m_h_rules_ref, .int m_h_rules_top, .ref q_h_rules_misses, .ref q_h_rules_resistors])), (q_h_rules_resistors, aI cy 16 m_h_rules_resistors), (q_h_below, aI cy 17 z.2)] (va_A [(h, .inr (0, [.ref q_h_rules, .ref q_h_stuck, .ref q_h_below, .int m_h_size])), (q_h_rules, .inr (5, [.int m_h_rules_bits, .int m_h_rules_unit, .int m_h_rules_offset, .int m_h_rules_lean, .int m_h_rules_ref, .int m_h_rules_top, .ref q_h_rules_misses, .ref q_h_rules_resistors])), (q_h_rules_resistors, aI cy 16 m_h_rules_resistors), (q_h_below, aI cy 17 m_h_below)] sz)) 0 0 (va_A [(h, .inr (0, [.ref q_h_rules, .ref q_h_stuck, .ref q_h_below, .int m_h_size])), (q_h_rules, .inr (5, [.int m_h_rules_bits, .int m_h_rules_unit, .int m_h_rules_offset, .int m_h_rules_lean, .int m_h_rules_ref, .int m_h_rules_top, .ref q_h_rules_misses, .ref q_h_rules_resistors])), (q_h_rules_resistors, aI cy 16 m_h_rules_resistors), (q_h_below, aI cy 17 m_h_below)] sz) :=
  met_of (fun A => kqv D cy [(h, .inr (0, [.ref q_h_rules, .ref q_h_stuck, .ref q_h_below, .int z.1])), (q_h_rules, .inr (5, [.int m_h_rules_bits, .int m_h_rules_unit, .int m_h_rules_offset, .int m_h_rules_lean, .int m_h_rules_ref, .int m_h_rules_top, .ref q_h_rules_misses, .ref q_h_rules_resistors])), (q_h_rules_resistors, aI cy 16 m_h_rules_resistors), (q_h_below, aI cy 17 z.2)] A) (by decide +kernel) (Nat.le_of_ble_eq_true rfl) (fun p e s m below meth c A ls C hP hD hS hl => k_X0_sumResistors C hf hP hD hS hl)
theorem hd_X0_sumResistors : yX0_sumResistors.cls ≠ "java/lang/invoke/MethodHandle" ∧ yX0_sumResistors.cls ≠ "java/lang/invoke/VarHandle" ∧ (parseMethodDescriptor yX0_sumResistors.desc).map (fun d => d.parameters.length) = some 1 := by decide +kernel
def f_X0_wordsOf_J29_4 (v2 : Int32) (v3 : Int32) : Option (Nat × (Int32 × Int32)) :=
  zl (v3 + (1 : Int32)) fun x29 =>
  some (0, (v2, x29))
set_option maxHeartbeats 4000000 in
set_option maxRecDepth 100000 in
theorem k_X0_wordsOf_J29_4 {h q_h_rules q_h_stuck q_h_below q_h_rules_misses q_h_rules_resistors : Nat} {v1 : Int32} {v2 : Int32} {v3 : Int32} {m_h_size : Int32} {m_h_rules_bits : Int32} {m_h_rules_unit : Int32} {m_h_rules_offset : Int32} {m_h_rules_lean : Int32} {m_h_rules_ref : Int32} {m_h_rules_top : Int32} {m_h_stuck : Nat → Int32} {m_h_below : Nat → Int32} {z : Nat × (Int32 × Int32)} (C : cx p s m args meth c cX0_wordsOf 4 (some .int) RX0 D cy A) (hf : f_X0_wordsOf_J29_4 v2 v3 = some z) (hP : va_P D vwCl [(h, .inr (0, [.ref q_h_rules, .ref q_h_stuck, .ref q_h_below, .int m_h_size])), (q_h_rules, .inr (5, [.int m_h_rules_bits, .int m_h_rules_unit, .int m_h_rules_offset, .int m_h_rules_lean, .int m_h_rules_ref, .int m_h_rules_top, .ref q_h_rules_misses, .ref q_h_rules_resistors])), (q_h_stuck, aI cy 16 m_h_stuck), (q_h_below, aI cy 17 m_h_below)] H) (hD : va_D A [(h, .inr (0, [.ref q_h_rules, .ref q_h_stuck, .ref q_h_below, .int m_h_size])), (q_h_rules, .inr (5, [.int m_h_rules_bits, .int m_h_rules_unit, .int m_h_rules_offset, .int m_h_rules_lean, .int m_h_rules_ref, .int m_h_rules_top, .ref q_h_rules_misses, .ref q_h_rules_resistors])), (q_h_stuck, aI cy 16 m_h_stuck), (q_h_below, aI cy 17 m_h_below)]) (hS : va_S A s.heap H locs) (hl : lv_has ls 4 [(0, .ref h), (1, .int v1), (2, .int v2), (3, .int v3)]) (hE0 : ∀ (H : Heap) (locs : List Loc) (ls : Array Slot), z.1 = 0 → va_P D vwCl [(h, .inr (0, [.ref q_h_rules, .ref q_h_stuck, .ref q_h_below, .int m_h_size])), (q_h_rules, .inr (5, [.int m_h_rules_bits, .int m_h_rules_unit, .int m_h_rules_offset, .int m_h_rules_lean, .int m_h_rules_ref, .int m_h_rules_top, .ref q_h_rules_misses, .ref q_h_rules_resistors])), (q_h_stuck, aI cy 16 m_h_stuck), (q_h_below, aI cy 17 m_h_below)] H → va_D A [(h, .inr (0, [.ref q_h_rules, .ref q_h_stuck, .ref q_h_below, .int m_h_size])), (q_h_rules, .inr (5, [.int m_h_rules_bits, .int m_h_rules_unit, .int m_h_rules_offset, .int m_h_rules_lean, .int m_h_rules_ref, .int m_h_rules_top, .ref q_h_rules_misses, .ref q_h_rules_resistors])), (q_h_stuck, aI cy 16 m_h_stuck), (q_h_below, aI cy 17 m_h_below)] → va_S A s.heap H locs → lv_has ls 4 [(0, .ref h), (1, .int v1), (2, .int z.2.1), (3, .int z.2.2)] → W p l e ({ frames := 3, cells := 0, slots := 0, locals := 65 } : Room) s m args below meth c H locs 0 0 Q (F0 m 4 ls [])) (hE1 : ∀ (H : Heap) (locs : List Loc) (ls : Array Slot), z.1 = 1 → va_P D vwCl [(h, .inr (0, [.ref q_h_rules, .ref q_h_stuck, .ref q_h_below, .int m_h_size])), (q_h_rules, .inr (5, [.int m_h_rules_bits, .int m_h_rules_unit, .int m_h_rules_offset, .int m_h_rules_lean, .int m_h_rules_ref, .int m_h_rules_top, .ref q_h_rules_misses, .ref q_h_rules_resistors])), (q_h_stuck, aI cy 16 m_h_stuck), (q_h_below, aI cy 17 m_h_below)] H → va_D A [(h, .inr (0, [.ref q_h_rules, .ref q_h_stuck, .ref q_h_below, .int m_h_size])), (q_h_rules, .inr (5, [.int m_h_rules_bits, .int m_h_rules_unit, .int m_h_rules_offset, .int m_h_rules_lean, .int m_h_rules_ref, .int m_h_rules_top, .ref q_h_rules_misses, .ref q_h_rules_resistors])), (q_h_stuck, aI cy 16 m_h_stuck), (q_h_below, aI cy 17 m_h_below)] → va_S A s.heap H locs → lv_has ls 4 [(2, .int z.2.1)] → W p l e ({ frames := 3, cells := 0, slots := 0, locals := 65 } : Room) s m args below meth c H locs 0 0 Q (F0 m 35 ls [])) : W p l e ({ frames := 3, cells := 0, slots := 0, locals := 65 } : Room) s m args below meth c H locs 0 0 Q (F0 m 29 ls []) := by
  obtain ⟨hx, hb, hr, hml, hown, hts, hlk, hK, hA, hN⟩ := id C
  unfold f_X0_wordsOf_J29_4 at hf
  obtain ⟨x29, ex29⟩ : ∃ y : Int32, y = v3 + (1 : Int32) := ⟨_, rfl⟩
  have hf := zl_of hf x29 ex29
  refine lv_iinc (v := x29) (lv' := [(3, .int x29), (0, .ref h), (1, .int v1), (2, .int v2)]) hx hb dX0_wordsOf_29 hl (k := 3) rfl (by rw [ex29]; rfl) (by decide) rfl (fun ls hl => ?_)
  refine lv_goto (tgt := 4) hx hb dX0_wordsOf_32 (by decide) ?_
  obtain rfl := Option.some.inj hf
  exact hE0 _ _ _ rfl hP hD hS (lv_sub hl [1, 2, 3, 0] rfl)
def f_X0_wordsOf_L4 (v1 : Int32) (m_h_size : Int32) (m_h_rules_ref : Int32) (m_h_stuck : Nat → Int32) (m_h_below : Nat → Int32) (w : Int32 × Int32) : Option (Nat × (Int32 × Int32)) :=
  if m_h_size ≤ w.2 then
    some (1, (w.1, w.2))
  else
    zb (f_X0_saysOne w.2 v1 m_h_size m_h_rules_ref m_h_stuck m_h_below) fun z15 =>
    if z15 = 0 then
      f_X0_wordsOf_J29_4 w.1 w.2
    else
      zl (w.1 ||| ((1 : Int32) <<< ((w.2 - (1 : Int32)) &&& 31))) fun x28 =>
      f_X0_wordsOf_J29_4 x28 w.2
set_option maxHeartbeats 4000000 in
set_option maxRecDepth 100000 in
theorem k_X0_wordsOf_L4 {h q_h_rules q_h_stuck q_h_below q_h_rules_misses q_h_rules_resistors : Nat} {v1 : Int32} {m_h_size : Int32} {m_h_rules_bits : Int32} {m_h_rules_unit : Int32} {m_h_rules_offset : Int32} {m_h_rules_lean : Int32} {m_h_rules_ref : Int32} {m_h_rules_top : Int32} {m_h_stuck : Nat → Int32} {m_h_below : Nat → Int32} {w : Int32 × Int32} {z : Nat × (Int32 × Int32)} (C : cx p s m args meth c cX0_wordsOf 4 (some .int) RX0 D cy A) (hf : f_X0_wordsOf_L4 v1 m_h_size m_h_rules_ref m_h_stuck m_h_below w = some z) (hP : va_P D vwCl [(h, .inr (0, [.ref q_h_rules, .ref q_h_stuck, .ref q_h_below, .int m_h_size])), (q_h_rules, .inr (5, [.int m_h_rules_bits, .int m_h_rules_unit, .int m_h_rules_offset, .int m_h_rules_lean, .int m_h_rules_ref, .int m_h_rules_top, .ref q_h_rules_misses, .ref q_h_rules_resistors])), (q_h_stuck, aI cy 16 m_h_stuck), (q_h_below, aI cy 17 m_h_below)] H) (hD : va_D A [(h, .inr (0, [.ref q_h_rules, .ref q_h_stuck, .ref q_h_below, .int m_h_size])), (q_h_rules, .inr (5, [.int m_h_rules_bits, .int m_h_rules_unit, .int m_h_rules_offset, .int m_h_rules_lean, .int m_h_rules_ref, .int m_h_rules_top, .ref q_h_rules_misses, .ref q_h_rules_resistors])), (q_h_stuck, aI cy 16 m_h_stuck), (q_h_below, aI cy 17 m_h_below)]) (hS : va_S A s.heap H locs) (hl : lv_has ls 4 [(0, .ref h), (1, .int v1), (2, .int w.1), (3, .int w.2)]) (hE0 : ∀ (H : Heap) (locs : List Loc) (ls : Array Slot), z.1 = 0 → va_P D vwCl [(h, .inr (0, [.ref q_h_rules, .ref q_h_stuck, .ref q_h_below, .int m_h_size])), (q_h_rules, .inr (5, [.int m_h_rules_bits, .int m_h_rules_unit, .int m_h_rules_offset, .int m_h_rules_lean, .int m_h_rules_ref, .int m_h_rules_top, .ref q_h_rules_misses, .ref q_h_rules_resistors])), (q_h_stuck, aI cy 16 m_h_stuck), (q_h_below, aI cy 17 m_h_below)] H → va_D A [(h, .inr (0, [.ref q_h_rules, .ref q_h_stuck, .ref q_h_below, .int m_h_size])), (q_h_rules, .inr (5, [.int m_h_rules_bits, .int m_h_rules_unit, .int m_h_rules_offset, .int m_h_rules_lean, .int m_h_rules_ref, .int m_h_rules_top, .ref q_h_rules_misses, .ref q_h_rules_resistors])), (q_h_stuck, aI cy 16 m_h_stuck), (q_h_below, aI cy 17 m_h_below)] → va_S A s.heap H locs → lv_has ls 4 [(0, .ref h), (1, .int v1), (2, .int z.2.1), (3, .int z.2.2)] → W p l e ({ frames := 3, cells := 0, slots := 0, locals := 65 } : Room) s m args below meth c H locs 0 0 Q (F0 m 4 ls [])) (hE1 : ∀ (H : Heap) (locs : List Loc) (ls : Array Slot), z.1 = 1 → va_P D vwCl [(h, .inr (0, [.ref q_h_rules, .ref q_h_stuck, .ref q_h_below, .int m_h_size])), (q_h_rules, .inr (5, [.int m_h_rules_bits, .int m_h_rules_unit, .int m_h_rules_offset, .int m_h_rules_lean, .int m_h_rules_ref, .int m_h_rules_top, .ref q_h_rules_misses, .ref q_h_rules_resistors])), (q_h_stuck, aI cy 16 m_h_stuck), (q_h_below, aI cy 17 m_h_below)] H → va_D A [(h, .inr (0, [.ref q_h_rules, .ref q_h_stuck, .ref q_h_below, .int m_h_size])), (q_h_rules, .inr (5, [.int m_h_rules_bits, .int m_h_rules_unit, .int m_h_rules_offset, .int m_h_rules_lean, .int m_h_rules_ref, .int m_h_rules_top, .ref q_h_rules_misses, .ref q_h_rules_resistors])), (q_h_stuck, aI cy 16 m_h_stuck), (q_h_below, aI cy 17 m_h_below)] → va_S A s.heap H locs → lv_has ls 4 [(2, .int z.2.1)] → W p l e ({ frames := 3, cells := 0, slots := 0, locals := 65 } : Room) s m args below meth c H locs 0 0 Q (F0 m 35 ls [])) : W p l e ({ frames := 3, cells := 0, slots := 0, locals := 65 } : Room) s m args below meth c H locs 0 0 Q (F0 m 4 ls []) := by
  obtain ⟨hx, hb, hr, hml, hown, hts, hlk, hK, hA, hN⟩ := id C
  unfold f_X0_wordsOf_L4 at hf
  refine lv_iload_n hx hb dX0_wordsOf_4 rfl (lv_at hl 3 rfl) ?_
  refine lv_aload_n hx hb dX0_wordsOf_5 rfl (lv_at hl 0 rfl) ?_
  refine va_get (D := D) (ci := 0) (v := .int m_h_size) (C := RX0) (T := TX0) (N := 4) hx hb hts ui_X0 hown hK hP 0 rfl rfl 3 (by decide) (hts _ fl_X0_20) (fun _ h9 => h9) rfl dX0_wordsOf_6 ?_
  refine lv_icmp_ge (tgt := 35) hx hb dX0_wordsOf_9 (by decide) (fun c9 => ?_) (fun c9 => ?_)
  · have hf := zt c9 hf
    obtain rfl := Option.some.inj hf
    exact hE1 _ _ _ rfl hP hD hS (lv_sub hl [2] rfl)
  · have hf := zf c9 hf
    refine lv_aload_n hx hb dX0_wordsOf_12 rfl (lv_at hl 0 rfl) ?_
    refine lv_iload_n hx hb dX0_wordsOf_13 rfl (lv_at hl 3 rfl) ?_
    refine lv_iload_n hx hb dX0_wordsOf_14 rfl (lv_at hl 1 rfl) ?_
    obtain ⟨z15, hz15, hf⟩ := zb_of hf
    refine goZ (wr := []) (ws' := [(h, .inr (0, [.ref q_h_rules, .ref q_h_stuck, .ref q_h_below, .int m_h_size])), (q_h_rules, .inr (5, [.int m_h_rules_bits, .int m_h_rules_unit, .int m_h_rules_offset, .int m_h_rules_lean, .int m_h_rules_ref, .int m_h_rules_top, .ref q_h_rules_misses, .ref q_h_rules_resistors])), (q_h_stuck, aI cy 16 m_h_stuck), (q_h_below, aI cy 17 m_h_below)]) C (runV (n := 2) (As := [.int w.2, .int v1]) (rest := []) C (c_X0_saysOne l D cy H.size h q_h_rules q_h_stuck q_h_below q_h_rules_misses q_h_rules_resistors w.2 v1 m_h_size m_h_rules_bits m_h_rules_unit m_h_rules_offset m_h_rules_lean m_h_rules_ref m_h_rules_top m_h_stuck m_h_below hz15) ml_X0_51 im_X0_saysOne se_X0_saysOne ii_X0 cd_X0_saysOne hd_X0_saysOne rfl rfl ⟨Nat.le_of_ble_eq_true rfl, Nat.le_of_ble_eq_true rfl⟩ (hP.sub [0, 1, 2, 3] rfl) (hD.sub [0, 1, 2, 3] (by decide) rfl) hS rfl rfl rfl hl.1 rfl (Nat.le_of_ble_eq_true rfl) dX0_wordsOf_15) hP hD hS [0, 1, 2, 3] [] [0, 1, 2, 3] rfl rfl (by decide) (by decide) rfl (by decide) (fun H locs n15 hP hD hS => ?_)
    refine lv_if_eq (tgt := 29) hx hb dX0_wordsOf_18 (by decide) (fun c18 => ?_) (fun c18 => ?_)
    · have hf := zt c18 hf
      exact k_X0_wordsOf_J29_4 C hf hP hD hS (lv_sub hl [0, 1, 2, 3] rfl) hE0 hE1
    · have hf := zf c18 hf
      refine lv_iload_n hx hb dX0_wordsOf_21 rfl (lv_at hl 2 rfl) ?_
      refine lv_iconst (v := 1) hx hb dX0_wordsOf_22 (by decide) ?_
      refine lv_iload_n hx hb dX0_wordsOf_23 rfl (lv_at hl 3 rfl) ?_
      refine lv_iconst (v := 1) hx hb dX0_wordsOf_24 (by decide) ?_
      refine lv_isub hx hb dX0_wordsOf_25 ?_
      refine lv_ishl hx hb dX0_wordsOf_26 ?_
      refine lv_ior hx hb dX0_wordsOf_27 ?_
      refine lv_topi (fun x28 ex28 => ?_)
      have hf := zl_of hf x28 ex28
      refine lv_istore_n (lv' := [(2, .int x28), (0, .ref h), (1, .int v1), (3, .int w.2)]) hx hb dX0_wordsOf_28 rfl hl (by decide) rfl (fun ls hl => ?_)
      exact k_X0_wordsOf_J29_4 C hf hP hD hS (lv_sub hl [1, 2, 0, 3] rfl) hE0 hE1
set_option maxHeartbeats 4000000 in
set_option maxRecDepth 100000 in
theorem kl_X0_wordsOf_L4 {h q_h_rules q_h_stuck q_h_below q_h_rules_misses q_h_rules_resistors : Nat} {v1 : Int32} {m_h_size : Int32} {m_h_rules_bits : Int32} {m_h_rules_unit : Int32} {m_h_rules_offset : Int32} {m_h_rules_lean : Int32} {m_h_rules_ref : Int32} {m_h_rules_top : Int32} {m_h_stuck : Nat → Int32} {m_h_below : Nat → Int32} (C : cx p s m args meth c cX0_wordsOf 4 (some .int) RX0 D cy A) : ∀ (n : Nat) (w : Int32 × Int32) (z : Nat × (Int32 × Int32)) (H : Heap) (locs : List Loc) (ls : Array Slot), zp (f_X0_wordsOf_L4 v1 m_h_size m_h_rules_ref m_h_stuck m_h_below) n w = some z → va_P D vwCl [(h, .inr (0, [.ref q_h_rules, .ref q_h_stuck, .ref q_h_below, .int m_h_size])), (q_h_rules, .inr (5, [.int m_h_rules_bits, .int m_h_rules_unit, .int m_h_rules_offset, .int m_h_rules_lean, .int m_h_rules_ref, .int m_h_rules_top, .ref q_h_rules_misses, .ref q_h_rules_resistors])), (q_h_stuck, aI cy 16 m_h_stuck), (q_h_below, aI cy 17 m_h_below)] H → va_D A [(h, .inr (0, [.ref q_h_rules, .ref q_h_stuck, .ref q_h_below, .int m_h_size])), (q_h_rules, .inr (5, [.int m_h_rules_bits, .int m_h_rules_unit, .int m_h_rules_offset, .int m_h_rules_lean, .int m_h_rules_ref, .int m_h_rules_top, .ref q_h_rules_misses, .ref q_h_rules_resistors])), (q_h_stuck, aI cy 16 m_h_stuck), (q_h_below, aI cy 17 m_h_below)] → va_S A s.heap H locs → lv_has ls 4 [(0, .ref h), (1, .int v1), (2, .int w.1), (3, .int w.2)] → (∀ (H : Heap) (locs : List Loc) (ls : Array Slot), z.1 = 1 → va_P D vwCl [(h, .inr (0, [.ref q_h_rules, .ref q_h_stuck, .ref q_h_below, .int m_h_size])), (q_h_rules, .inr (5, [.int m_h_rules_bits, .int m_h_rules_unit, .int m_h_rules_offset, .int m_h_rules_lean, .int m_h_rules_ref, .int m_h_rules_top, .ref q_h_rules_misses, .ref q_h_rules_resistors])), (q_h_stuck, aI cy 16 m_h_stuck), (q_h_below, aI cy 17 m_h_below)] H → va_D A [(h, .inr (0, [.ref q_h_rules, .ref q_h_stuck, .ref q_h_below, .int m_h_size])), (q_h_rules, .inr (5, [.int m_h_rules_bits, .int m_h_rules_unit, .int m_h_rules_offset, .int m_h_rules_lean, .int m_h_rules_ref, .int m_h_rules_top, .ref q_h_rules_misses, .ref q_h_rules_resistors])), (q_h_stuck, aI cy 16 m_h_stuck), (q_h_below, aI cy 17 m_h_below)] → va_S A s.heap H locs → lv_has ls 4 [(2, .int z.2.1)] → W p l e ({ frames := 3, cells := 0, slots := 0, locals := 65 } : Room) s m args below meth c H locs 0 0 Q (F0 m 35 ls [])) → W p l e ({ frames := 3, cells := 0, slots := 0, locals := 65 } : Room) s m args below meth c H locs 0 0 Q (F0 m 4 ls []) := by
  intro n
  induction n with
  | zero => intro w z H locs ls hf; cases hf
  | succ n ih =>
    intro w z H locs ls hf hP hD hS hl hE1
    obtain ⟨w1, hw, hd⟩ := zp_s hf
    refine k_X0_wordsOf_L4 C hw hP hD hS hl (fun H locs ls h0 hP hD hS hl => ?_) (fun H locs ls h0 hP hD hS hl => ?_)
    · rcases hd with ⟨_, h⟩ | ⟨h, _⟩
      · exact ih _ _ _ _ _ h hP hD hS hl hE1
      · exact absurd h0 h
    · rcases hd with ⟨h, _⟩ | ⟨_, h⟩
      · exact absurd (h.symm.trans h0) (by decide)
      · subst h; exact hE1 _ _ _ h0 hP hD hS hl
def f_X0_wordsOf (v1 : Int32) (m_h_size : Int32) (m_h_rules_ref : Int32) (m_h_stuck : Nat → Int32) (m_h_below : Nat → Int32) : Option (Int32) :=
  zb (zp (f_X0_wordsOf_L4 v1 m_h_size m_h_rules_ref m_h_stuck m_h_below) zF ((0 : Int32), (1 : Int32))) fun z4 =>
  some z4.2.1
set_option maxHeartbeats 4000000 in
set_option maxRecDepth 100000 in
theorem k_X0_wordsOf {h q_h_rules q_h_stuck q_h_below q_h_rules_misses q_h_rules_resistors : Nat} {v1 : Int32} {m_h_size : Int32} {m_h_rules_bits : Int32} {m_h_rules_unit : Int32} {m_h_rules_offset : Int32} {m_h_rules_lean : Int32} {m_h_rules_ref : Int32} {m_h_rules_top : Int32} {m_h_stuck : Nat → Int32} {m_h_below : Nat → Int32} {z : Int32} (C : cx p s m args meth c cX0_wordsOf 4 (some .int) RX0 D cy A) (hf : f_X0_wordsOf v1 m_h_size m_h_rules_ref m_h_stuck m_h_below = some z) (hP : va_P D vwCl [(h, .inr (0, [.ref q_h_rules, .ref q_h_stuck, .ref q_h_below, .int m_h_size])), (q_h_rules, .inr (5, [.int m_h_rules_bits, .int m_h_rules_unit, .int m_h_rules_offset, .int m_h_rules_lean, .int m_h_rules_ref, .int m_h_rules_top, .ref q_h_rules_misses, .ref q_h_rules_resistors])), (q_h_stuck, aI cy 16 m_h_stuck), (q_h_below, aI cy 17 m_h_below)] H) (hD : va_D A [(h, .inr (0, [.ref q_h_rules, .ref q_h_stuck, .ref q_h_below, .int m_h_size])), (q_h_rules, .inr (5, [.int m_h_rules_bits, .int m_h_rules_unit, .int m_h_rules_offset, .int m_h_rules_lean, .int m_h_rules_ref, .int m_h_rules_top, .ref q_h_rules_misses, .ref q_h_rules_resistors])), (q_h_stuck, aI cy 16 m_h_stuck), (q_h_below, aI cy 17 m_h_below)]) (hS : va_S A s.heap H locs) (hl : lv_has ls 4 [(0, .ref h), (1, .int v1)]) : W p l e ({ frames := 3, cells := 0, slots := 0, locals := 65 } : Room) s m args below meth c H locs 0 0 (MQ below (kqi D cy [(h, .inr (0, [.ref q_h_rules, .ref q_h_stuck, .ref q_h_below, .int m_h_size])), (q_h_rules, .inr (5, [.int m_h_rules_bits, .int m_h_rules_unit, .int m_h_rules_offset, .int m_h_rules_lean, .int m_h_rules_ref, .int m_h_rules_top, .ref q_h_rules_misses, .ref q_h_rules_resistors])), (q_h_stuck, aI cy 16 m_h_stuck), (q_h_below, aI cy 17 m_h_below)] z A) args s 0 0 A) (F0 m 0 ls []) := by
  obtain ⟨hx, hb, hr, hml, hown, hts, hlk, hK, hA, hN⟩ := id C
  unfold f_X0_wordsOf at hf
  refine lv_iconst (v := 0) hx hb dX0_wordsOf_0 (by decide) ?_
  refine lv_istore_n (lv' := [(2, .int (0 : Int32)), (0, .ref h), (1, .int v1)]) hx hb dX0_wordsOf_1 rfl hl (by decide) rfl (fun ls hl => ?_)
  refine lv_iconst (v := 1) hx hb dX0_wordsOf_2 (by decide) ?_
  refine lv_istore_n (lv' := [(3, .int (1 : Int32)), (2, .int (0 : Int32)), (0, .ref h), (1, .int v1)]) hx hb dX0_wordsOf_3 rfl hl (by decide) rfl (fun ls hl => ?_)
  obtain ⟨z4, hz4, hf⟩ := zb_of hf
  refine kl_X0_wordsOf_L4 C _ _ _ _ _ _ hz4 hP hD hS (lv_sub hl [2, 3, 1, 0] rfl) (fun H locs ls h0 hP hD hS hl => ?_)
  refine lv_iload_n hx hb dX0_wordsOf_35 rfl (lv_at hl 0 rfl) ?_
  obtain rfl := Option.some.inj hf
  exact ret_i C hP hD hS dX0_wordsOf_36
set_option maxRecDepth 100000 in
theorem c_X0_wordsOf (l : Launch) (D : va_G) (cy : Nat → ClassId) (sz : Nat) (h q_h_rules q_h_stuck q_h_below q_h_rules_misses q_h_rules_resistors : Nat) (v1 : Int32) (m_h_size : Int32) (m_h_rules_bits : Int32) (m_h_rules_unit : Int32) (m_h_rules_offset : Int32) (m_h_rules_lean : Int32) (m_h_rules_ref : Int32) (m_h_rules_top : Int32) (m_h_stuck : Nat → Int32) (m_h_below : Nat → Int32) {z : Int32} (hf : f_X0_wordsOf v1 m_h_size m_h_rules_ref m_h_stuck m_h_below = some z) : Met l yX0_wordsOf (.code yX0_wordsOf cX0_wordsOf 4 (some .int) :: tb) ({ frames := 3, cells := 0, slots := 0, locals := 65 } : Room) (kp D cy sz [.ref h, .int v1] [(h, .inr (0, [.ref q_h_rules, .ref q_h_stuck, .ref q_h_below, .int m_h_size])), (q_h_rules, .inr (5, [.int m_h_rules_bits, .int m_h_rules_unit, .int m_h_rules_offset, .int m_h_rules_lean, .int m_h_rules_ref, .int m_h_rules_top, .ref q_h_rules_misses, .ref q_h_rules_resistors])), (q_h_stuck, aI cy 16 m_h_stuck), (q_h_below, aI cy 17 m_h_below)]) (kqi D cy [(h, .inr (0, [.ref q_h_rules, .ref q_h_stuck, .ref q_h_below, .int m_h_size])), (q_h_rules, .inr (5, [.int m_h_rules_bits, .int m_h_rules_unit, .int m_h_rules_offset, .int m_h_rules_lean, .int m_h_rules_ref, .int m_h_rules_top, .ref q_h_rules_misses, .ref q_h_rules_resistors])), (q_h_stuck, aI cy 16 m_h_stuck), (q_h_below, aI cy 17 m_h_below)] z (va_A [(h, .inr (0, [.ref q_h_rules, .ref q_h_stuck, .ref q_h_below, .int m_h_size])), (q_h_rules, .inr (5, [.int m_h_rules_bits, .int m_h_rules_unit, .int m_h_rules_offset, .int m_h_rules_lean, .int m_h_rules_ref, .int m_h_rules_top, .ref q_h_rules_misses, .ref q_h_rules_resistors])), (q_h_stuck, aI cy 16 m_h_stuck), (q_h_below, aI cy 17 m_h_below)] sz)) 0 0 (va_A [(h, .inr (0, [.ref q_h_rules, .ref q_h_stuck, .ref q_h_below, .int m_h_size])), (q_h_rules, .inr (5, [.int m_h_rules_bits, .int m_h_rules_unit, .int m_h_rules_offset, .int m_h_rules_lean, .int m_h_rules_ref, .int m_h_rules_top, .ref q_h_rules_misses, .ref q_h_rules_resistors])), (q_h_stuck, aI cy 16 m_h_stuck), (q_h_below, aI cy 17 m_h_below)] sz) :=
  met_of (fun A => kqi D cy [(h, .inr (0, [.ref q_h_rules, .ref q_h_stuck, .ref q_h_below, .int m_h_size])), (q_h_rules, .inr (5, [.int m_h_rules_bits, .int m_h_rules_unit, .int m_h_rules_offset, .int m_h_rules_lean, .int m_h_rules_ref, .int m_h_rules_top, .ref q_h_rules_misses, .ref q_h_rules_resistors])), (q_h_stuck, aI cy 16 m_h_stuck), (q_h_below, aI cy 17 m_h_below)] z A) (by decide +kernel) (Nat.le_of_ble_eq_true rfl) (fun p e s m below meth c A ls C hP hD hS hl => k_X0_wordsOf C hf hP hD hS hl)
theorem hd_X0_wordsOf : yX0_wordsOf.cls ≠ "java/lang/invoke/MethodHandle" ∧ yX0_wordsOf.cls ≠ "java/lang/invoke/VarHandle" ∧ (parseMethodDescriptor yX0_wordsOf.desc).map (fun d => d.parameters.length) = some 1 := by decide +kernel
def f_X0_voltsOffEven_J64_4 (v1 : Int32) (v2 : Int32) : Option (Nat × (Int32 × Int32)) :=
  zl (v2 + (1 : Int32)) fun x64 =>
  some (0, (v1, x64))
set_option maxHeartbeats 4000000 in
set_option maxRecDepth 100000 in
theorem k_X0_voltsOffEven_J64_4 {h q_h_rules q_h_stuck q_h_below q_h_rules_misses q_h_rules_resistors : Nat} {v1 : Int32} {v2 : Int32} {m_h_size : Int32} {m_h_rules_bits : Int32} {m_h_rules_unit : Int32} {m_h_rules_offset : Int32} {m_h_rules_lean : Int32} {m_h_rules_ref : Int32} {m_h_rules_top : Int32} {m_h_stuck : Nat → Int32} {m_h_below : Nat → Int32} {z : Nat × (Int32 × Int32)} (C : cx p s m args meth c cX0_voltsOffEven 4 (some .int) RX0 D cy A) (hf : f_X0_voltsOffEven_J64_4 v1 v2 = some z) (hP : va_P D vwCl [(h, .inr (0, [.ref q_h_rules, .ref q_h_stuck, .ref q_h_below, .int m_h_size])), (q_h_rules, .inr (5, [.int m_h_rules_bits, .int m_h_rules_unit, .int m_h_rules_offset, .int m_h_rules_lean, .int m_h_rules_ref, .int m_h_rules_top, .ref q_h_rules_misses, .ref q_h_rules_resistors])), (q_h_stuck, aI cy 16 m_h_stuck), (q_h_below, aI cy 17 m_h_below)] H) (hD : va_D A [(h, .inr (0, [.ref q_h_rules, .ref q_h_stuck, .ref q_h_below, .int m_h_size])), (q_h_rules, .inr (5, [.int m_h_rules_bits, .int m_h_rules_unit, .int m_h_rules_offset, .int m_h_rules_lean, .int m_h_rules_ref, .int m_h_rules_top, .ref q_h_rules_misses, .ref q_h_rules_resistors])), (q_h_stuck, aI cy 16 m_h_stuck), (q_h_below, aI cy 17 m_h_below)]) (hS : va_S A s.heap H locs) (hl : lv_has ls 4 [(0, .ref h), (1, .int v1), (2, .int v2)]) (hE0 : ∀ (H : Heap) (locs : List Loc) (ls : Array Slot), z.1 = 0 → va_P D vwCl [(h, .inr (0, [.ref q_h_rules, .ref q_h_stuck, .ref q_h_below, .int m_h_size])), (q_h_rules, .inr (5, [.int m_h_rules_bits, .int m_h_rules_unit, .int m_h_rules_offset, .int m_h_rules_lean, .int m_h_rules_ref, .int m_h_rules_top, .ref q_h_rules_misses, .ref q_h_rules_resistors])), (q_h_stuck, aI cy 16 m_h_stuck), (q_h_below, aI cy 17 m_h_below)] H → va_D A [(h, .inr (0, [.ref q_h_rules, .ref q_h_stuck, .ref q_h_below, .int m_h_size])), (q_h_rules, .inr (5, [.int m_h_rules_bits, .int m_h_rules_unit, .int m_h_rules_offset, .int m_h_rules_lean, .int m_h_rules_ref, .int m_h_rules_top, .ref q_h_rules_misses, .ref q_h_rules_resistors])), (q_h_stuck, aI cy 16 m_h_stuck), (q_h_below, aI cy 17 m_h_below)] → va_S A s.heap H locs → lv_has ls 4 [(0, .ref h), (1, .int z.2.1), (2, .int z.2.2)] → W p l e ({ frames := 4, cells := 0, slots := 0, locals := 88 } : Room) s m args below meth c H locs 0 0 Q (F0 m 4 ls [])) (hE1 : ∀ (H : Heap) (locs : List Loc) (ls : Array Slot), z.1 = 1 → va_P D vwCl [(h, .inr (0, [.ref q_h_rules, .ref q_h_stuck, .ref q_h_below, .int m_h_size])), (q_h_rules, .inr (5, [.int m_h_rules_bits, .int m_h_rules_unit, .int m_h_rules_offset, .int m_h_rules_lean, .int m_h_rules_ref, .int m_h_rules_top, .ref q_h_rules_misses, .ref q_h_rules_resistors])), (q_h_stuck, aI cy 16 m_h_stuck), (q_h_below, aI cy 17 m_h_below)] H → va_D A [(h, .inr (0, [.ref q_h_rules, .ref q_h_stuck, .ref q_h_below, .int m_h_size])), (q_h_rules, .inr (5, [.int m_h_rules_bits, .int m_h_rules_unit, .int m_h_rules_offset, .int m_h_rules_lean, .int m_h_rules_ref, .int m_h_rules_top, .ref q_h_rules_misses, .ref q_h_rules_resistors])), (q_h_stuck, aI cy 16 m_h_stuck), (q_h_below, aI cy 17 m_h_below)] → va_S A s.heap H locs → lv_has ls 4 [(1, .int z.2.1)] → W p l e ({ frames := 4, cells := 0, slots := 0, locals := 88 } : Room) s m args below meth c H locs 0 0 Q (F0 m 70 ls [])) : W p l e ({ frames := 4, cells := 0, slots := 0, locals := 88 } : Room) s m args below meth c H locs 0 0 Q (F0 m 64 ls []) := by
  obtain ⟨hx, hb, hr, hml, hown, hts, hlk, hK, hA, hN⟩ := id C
  unfold f_X0_voltsOffEven_J64_4 at hf
  obtain ⟨x64, ex64⟩ : ∃ y : Int32, y = v2 + (1 : Int32) := ⟨_, rfl⟩
  have hf := zl_of hf x64 ex64
  refine lv_iinc (v := x64) (lv' := [(2, .int x64), (0, .ref h), (1, .int v1)]) hx hb dX0_voltsOffEven_64 hl (k := 2) rfl (by rw [ex64]; rfl) (by decide) rfl (fun ls hl => ?_)
  refine lv_goto (tgt := 4) hx hb dX0_voltsOffEven_67 (by decide) ?_
  obtain rfl := Option.some.inj hf
  exact hE0 _ _ _ rfl hP hD hS (lv_sub hl [1, 2, 0] rfl)
def f_X0_voltsOffEven_L4 (m_h_size : Int32) (m_h_rules_ref : Int32) (m_h_stuck : Nat → Int32) (m_h_below : Nat → Int32) (w : Int32 × Int32) : Option (Nat × (Int32 × Int32)) :=
  if m_h_rules_ref < w.2 then
    some (1, (w.1, w.2))
  else
    if m_h_rules_ref ≤ 0 then
      some (1, (w.1, w.2))
    else
      zn m_h_rules_ref <|
      zb (f_J9_min_7cf53 (m_h_size - (1 : Int32)) ((w.2 * m_h_size) / m_h_rules_ref)) fun z45 =>
      zb (f_X0_wordsOf w.2 m_h_size m_h_rules_ref m_h_stuck m_h_below) fun z51 =>
      zb (f_X0_saying z51) fun z54 =>
      if z54 = z45 then
        f_X0_voltsOffEven_J64_4 w.1 w.2
      else
        zl (w.1 + (1 : Int32)) fun x61 =>
        f_X0_voltsOffEven_J64_4 x61 w.2
set_option maxHeartbeats 4000000 in
set_option maxRecDepth 100000 in
theorem k_X0_voltsOffEven_L4 {h q_h_rules q_h_stuck q_h_below q_h_rules_misses q_h_rules_resistors : Nat} {m_h_size : Int32} {m_h_rules_bits : Int32} {m_h_rules_unit : Int32} {m_h_rules_offset : Int32} {m_h_rules_lean : Int32} {m_h_rules_ref : Int32} {m_h_rules_top : Int32} {m_h_stuck : Nat → Int32} {m_h_below : Nat → Int32} {w : Int32 × Int32} {z : Nat × (Int32 × Int32)} (C : cx p s m args meth c cX0_voltsOffEven 4 (some .int) RX0 D cy A) (hf : f_X0_voltsOffEven_L4 m_h_size m_h_rules_ref m_h_stuck m_h_below w = some z) (hP : va_P D vwCl [(h, .inr (0, [.ref q_h_rules, .ref q_h_stuck, .ref q_h_below, .int m_h_size])), (q_h_rules, .inr (5, [.int m_h_rules_bits, .int m_h_rules_unit, .int m_h_rules_offset, .int m_h_rules_lean, .int m_h_rules_ref, .int m_h_rules_top, .ref q_h_rules_misses, .ref q_h_rules_resistors])), (q_h_stuck, aI cy 16 m_h_stuck), (q_h_below, aI cy 17 m_h_below)] H) (hD : va_D A [(h, .inr (0, [.ref q_h_rules, .ref q_h_stuck, .ref q_h_below, .int m_h_size])), (q_h_rules, .inr (5, [.int m_h_rules_bits, .int m_h_rules_unit, .int m_h_rules_offset, .int m_h_rules_lean, .int m_h_rules_ref, .int m_h_rules_top, .ref q_h_rules_misses, .ref q_h_rules_resistors])), (q_h_stuck, aI cy 16 m_h_stuck), (q_h_below, aI cy 17 m_h_below)]) (hS : va_S A s.heap H locs) (hl : lv_has ls 4 [(0, .ref h), (1, .int w.1), (2, .int w.2)]) (hE0 : ∀ (H : Heap) (locs : List Loc) (ls : Array Slot), z.1 = 0 → va_P D vwCl [(h, .inr (0, [.ref q_h_rules, .ref q_h_stuck, .ref q_h_below, .int m_h_size])), (q_h_rules, .inr (5, [.int m_h_rules_bits, .int m_h_rules_unit, .int m_h_rules_offset, .int m_h_rules_lean, .int m_h_rules_ref, .int m_h_rules_top, .ref q_h_rules_misses, .ref q_h_rules_resistors])), (q_h_stuck, aI cy 16 m_h_stuck), (q_h_below, aI cy 17 m_h_below)] H → va_D A [(h, .inr (0, [.ref q_h_rules, .ref q_h_stuck, .ref q_h_below, .int m_h_size])), (q_h_rules, .inr (5, [.int m_h_rules_bits, .int m_h_rules_unit, .int m_h_rules_offset, .int m_h_rules_lean, .int m_h_rules_ref, .int m_h_rules_top, .ref q_h_rules_misses, .ref q_h_rules_resistors])), (q_h_stuck, aI cy 16 m_h_stuck), (q_h_below, aI cy 17 m_h_below)] → va_S A s.heap H locs → lv_has ls 4 [(0, .ref h), (1, .int z.2.1), (2, .int z.2.2)] → W p l e ({ frames := 4, cells := 0, slots := 0, locals := 88 } : Room) s m args below meth c H locs 0 0 Q (F0 m 4 ls [])) (hE1 : ∀ (H : Heap) (locs : List Loc) (ls : Array Slot), z.1 = 1 → va_P D vwCl [(h, .inr (0, [.ref q_h_rules, .ref q_h_stuck, .ref q_h_below, .int m_h_size])), (q_h_rules, .inr (5, [.int m_h_rules_bits, .int m_h_rules_unit, .int m_h_rules_offset, .int m_h_rules_lean, .int m_h_rules_ref, .int m_h_rules_top, .ref q_h_rules_misses, .ref q_h_rules_resistors])), (q_h_stuck, aI cy 16 m_h_stuck), (q_h_below, aI cy 17 m_h_below)] H → va_D A [(h, .inr (0, [.ref q_h_rules, .ref q_h_stuck, .ref q_h_below, .int m_h_size])), (q_h_rules, .inr (5, [.int m_h_rules_bits, .int m_h_rules_unit, .int m_h_rules_offset, .int m_h_rules_lean, .int m_h_rules_ref, .int m_h_rules_top, .ref q_h_rules_misses, .ref q_h_rules_resistors])), (q_h_stuck, aI cy 16 m_h_stuck), (q_h_below, aI cy 17 m_h_below)] → va_S A s.heap H locs → lv_has ls 4 [(1, .int z.2.1)] → W p l e ({ frames := 4, cells := 0, slots := 0, locals := 88 } : Room) s m args below meth c H locs 0 0 Q (F0 m 70 ls [])) : W p l e ({ frames := 4, cells := 0, slots := 0, locals := 88 } : Room) s m args below meth c H locs 0 0 Q (F0 m 4 ls []) := by
  obtain ⟨hx, hb, hr, hml, hown, hts, hlk, hK, hA, hN⟩ := id C
  unfold f_X0_voltsOffEven_L4 at hf
  refine lv_iload_n hx hb dX0_voltsOffEven_4 rfl (lv_at hl 2 rfl) ?_
  refine lv_aload_n hx hb dX0_voltsOffEven_5 rfl (lv_at hl 0 rfl) ?_
  refine va_get (D := D) (ci := 0) (v := .ref q_h_rules) (C := RX0) (T := TX0) (N := 4) hx hb hts ui_X0 hown hK hP 0 rfl rfl 0 (by decide) (hts _ fl_X0_24) (fun _ h9 => h9) rfl dX0_voltsOffEven_6 ?_
  refine va_get (D := D) (ci := 5) (v := .int m_h_rules_ref) (C := RX5) (T := TX5) (N := 8) hx hb hts ui_X5 hown hK hP 1 rfl rfl 4 (by decide) (hts _ fl_X0_48) (fun _ h9 => h9) rfl dX0_voltsOffEven_9 ?_
  refine lv_icmp_gt (tgt := 70) hx hb dX0_voltsOffEven_12 (by decide) (fun c12 => ?_) (fun c12 => ?_)
  · have hf := zt c12 hf
    obtain rfl := Option.some.inj hf
    exact hE1 _ _ _ rfl hP hD hS (lv_sub hl [1] rfl)
  · have hf := zf c12 hf
    refine lv_aload_n hx hb dX0_voltsOffEven_15 rfl (lv_at hl 0 rfl) ?_
    refine va_get (D := D) (ci := 0) (v := .ref q_h_rules) (C := RX0) (T := TX0) (N := 4) hx hb hts ui_X0 hown hK hP 0 rfl rfl 0 (by decide) (hts _ fl_X0_24) (fun _ h9 => h9) rfl dX0_voltsOffEven_16 ?_
    refine va_get (D := D) (ci := 5) (v := .int m_h_rules_ref) (C := RX5) (T := TX5) (N := 8) hx hb hts ui_X5 hown hK hP 1 rfl rfl 4 (by decide) (hts _ fl_X0_48) (fun _ h9 => h9) rfl dX0_voltsOffEven_19 ?_
    refine lv_if_le (tgt := 70) hx hb dX0_voltsOffEven_22 (by decide) (fun c22 => ?_) (fun c22 => ?_)
    · have hf := zt c22 hf
      obtain rfl := Option.some.inj hf
      exact hE1 _ _ _ rfl hP hD hS (lv_sub hl [1] rfl)
    · have hf := zf c22 hf
      refine lv_aload_n hx hb dX0_voltsOffEven_25 rfl (lv_at hl 0 rfl) ?_
      refine va_get (D := D) (ci := 0) (v := .int m_h_size) (C := RX0) (T := TX0) (N := 4) hx hb hts ui_X0 hown hK hP 0 rfl rfl 3 (by decide) (hts _ fl_X0_20) (fun _ h9 => h9) rfl dX0_voltsOffEven_26 ?_
      refine lv_iconst (v := 1) hx hb dX0_voltsOffEven_29 (by decide) ?_
      refine lv_isub hx hb dX0_voltsOffEven_30 ?_
      refine lv_iload_n hx hb dX0_voltsOffEven_31 rfl (lv_at hl 2 rfl) ?_
      refine lv_aload_n hx hb dX0_voltsOffEven_32 rfl (lv_at hl 0 rfl) ?_
      refine va_get (D := D) (ci := 0) (v := .int m_h_size) (C := RX0) (T := TX0) (N := 4) hx hb hts ui_X0 hown hK hP 0 rfl rfl 3 (by decide) (hts _ fl_X0_20) (fun _ h9 => h9) rfl dX0_voltsOffEven_33 ?_
      refine lv_imul hx hb dX0_voltsOffEven_36 ?_
      refine lv_aload_n hx hb dX0_voltsOffEven_37 rfl (lv_at hl 0 rfl) ?_
      refine va_get (D := D) (ci := 0) (v := .ref q_h_rules) (C := RX0) (T := TX0) (N := 4) hx hb hts ui_X0 hown hK hP 0 rfl rfl 0 (by decide) (hts _ fl_X0_24) (fun _ h9 => h9) rfl dX0_voltsOffEven_38 ?_
      refine va_get (D := D) (ci := 5) (v := .int m_h_rules_ref) (C := RX5) (T := TX5) (N := 8) hx hb hts ui_X5 hown hK hP 1 rfl rfl 4 (by decide) (hts _ fl_X0_48) (fun _ h9 => h9) rfl dX0_voltsOffEven_41 ?_
      obtain ⟨hne, hf⟩ := zn_of hf
      refine lv_idiv hx hb dX0_voltsOffEven_44 hne ?_
      obtain ⟨z45, hz45, hf⟩ := zb_of hf
      refine goI (wr := [(h, .inr (0, [.ref q_h_rules, .ref q_h_stuck, .ref q_h_below, .int m_h_size])), (q_h_rules, .inr (5, [.int m_h_rules_bits, .int m_h_rules_unit, .int m_h_rules_offset, .int m_h_rules_lean, .int m_h_rules_ref, .int m_h_rules_top, .ref q_h_rules_misses, .ref q_h_rules_resistors])), (q_h_stuck, aI cy 16 m_h_stuck), (q_h_below, aI cy 17 m_h_below)]) (ws' := [(h, .inr (0, [.ref q_h_rules, .ref q_h_stuck, .ref q_h_below, .int m_h_size])), (q_h_rules, .inr (5, [.int m_h_rules_bits, .int m_h_rules_unit, .int m_h_rules_offset, .int m_h_rules_lean, .int m_h_rules_ref, .int m_h_rules_top, .ref q_h_rules_misses, .ref q_h_rules_resistors])), (q_h_stuck, aI cy 16 m_h_stuck), (q_h_below, aI cy 17 m_h_below)]) C (runS (n := 2) (As := [.int (m_h_size - (1 : Int32)), .int ((w.2 * m_h_size) / m_h_rules_ref)]) (rest := []) C (c_J9_min_7cf53 l D cy H.size (m_h_size - (1 : Int32)) ((w.2 * m_h_size) / m_h_rules_ref) hz45) ml_X0_73 st_J9_min_7cf53 ii_J9 cd_J9_min_7cf53 hd_J9_min_7cf53 rfl rfl ⟨Nat.le_of_ble_eq_true rfl, Nat.le_of_ble_eq_true rfl⟩ (hP.sub [] rfl) (hD.sub [] (by decide) rfl) hS rfl hl.1 rfl (Nat.le_of_ble_eq_true rfl) dX0_voltsOffEven_45) hP hD hS [] [0, 1, 2, 3] [0, 1, 2, 3] rfl rfl (by decide) (by decide) rfl (by decide) (fun H locs hP hD hS => ?_)
      refine lv_istore_n (lv' := [(3, .int z45), (0, .ref h), (1, .int w.1), (2, .int w.2)]) hx hb dX0_voltsOffEven_48 rfl hl (by decide) rfl (fun ls hl => ?_)
      refine lv_aload_n hx hb dX0_voltsOffEven_49 rfl (lv_at hl 1 rfl) ?_
      refine lv_iload_n hx hb dX0_voltsOffEven_50 rfl (lv_at hl 3 rfl) ?_
      obtain ⟨z51, hz51, hf⟩ := zb_of hf
      refine goI (wr := []) (ws' := [(h, .inr (0, [.ref q_h_rules, .ref q_h_stuck, .ref q_h_below, .int m_h_size])), (q_h_rules, .inr (5, [.int m_h_rules_bits, .int m_h_rules_unit, .int m_h_rules_offset, .int m_h_rules_lean, .int m_h_rules_ref, .int m_h_rules_top, .ref q_h_rules_misses, .ref q_h_rules_resistors])), (q_h_stuck, aI cy 16 m_h_stuck), (q_h_below, aI cy 17 m_h_below)]) C (runV (n := 1) (As := [.int w.2]) (rest := []) C (c_X0_wordsOf l D cy H.size h q_h_rules q_h_stuck q_h_below q_h_rules_misses q_h_rules_resistors w.2 m_h_size m_h_rules_bits m_h_rules_unit m_h_rules_offset m_h_rules_lean m_h_rules_ref m_h_rules_top m_h_stuck m_h_below hz51) ml_X0_64 im_X0_wordsOf se_X0_wordsOf ii_X0 cd_X0_wordsOf hd_X0_wordsOf rfl rfl ⟨Nat.le_of_ble_eq_true rfl, Nat.le_of_ble_eq_true rfl⟩ (hP.sub [0, 1, 2, 3] rfl) (hD.sub [0, 1, 2, 3] (by decide) rfl) hS rfl rfl rfl hl.1 rfl (Nat.le_of_ble_eq_true rfl) dX0_voltsOffEven_51) hP hD hS [0, 1, 2, 3] [] [0, 1, 2, 3] rfl rfl (by decide) (by decide) rfl (by decide) (fun H locs hP hD hS => ?_)
      obtain ⟨z54, hz54, hf⟩ := zb_of hf
      refine goI (wr := [(h, .inr (0, [.ref q_h_rules, .ref q_h_stuck, .ref q_h_below, .int m_h_size])), (q_h_rules, .inr (5, [.int m_h_rules_bits, .int m_h_rules_unit, .int m_h_rules_offset, .int m_h_rules_lean, .int m_h_rules_ref, .int m_h_rules_top, .ref q_h_rules_misses, .ref q_h_rules_resistors])), (q_h_stuck, aI cy 16 m_h_stuck), (q_h_below, aI cy 17 m_h_below)]) (ws' := [(h, .inr (0, [.ref q_h_rules, .ref q_h_stuck, .ref q_h_below, .int m_h_size])), (q_h_rules, .inr (5, [.int m_h_rules_bits, .int m_h_rules_unit, .int m_h_rules_offset, .int m_h_rules_lean, .int m_h_rules_ref, .int m_h_rules_top, .ref q_h_rules_misses, .ref q_h_rules_resistors])), (q_h_stuck, aI cy 16 m_h_stuck), (q_h_below, aI cy 17 m_h_below)]) C (runS (n := 1) (As := [.int z51]) (rest := []) C (c_X0_saying l D cy H.size z51 hz54) ml_X0_67 st_X0_saying ii_X0 cd_X0_saying hd_X0_saying rfl rfl ⟨Nat.le_of_ble_eq_true rfl, Nat.le_of_ble_eq_true rfl⟩ (hP.sub [] rfl) (hD.sub [] (by decide) rfl) hS rfl hl.1 rfl (Nat.le_of_ble_eq_true rfl) dX0_voltsOffEven_54) hP hD hS [] [0, 1, 2, 3] [0, 1, 2, 3] rfl rfl (by decide) (by decide) rfl (by decide) (fun H locs hP hD hS => ?_)
      refine lv_iload_n hx hb dX0_voltsOffEven_57 rfl (lv_at hl 0 rfl) ?_
      refine lv_icmp_eq (tgt := 64) hx hb dX0_voltsOffEven_58 (by decide) (fun c58 => ?_) (fun c58 => ?_)
      · have hf := zt c58 hf
        exact k_X0_voltsOffEven_J64_4 C hf hP hD hS (lv_sub hl [1, 2, 3] rfl) hE0 hE1
      · have hf := zf c58 hf
        obtain ⟨x61, ex61⟩ : ∃ y : Int32, y = w.1 + (1 : Int32) := ⟨_, rfl⟩
        have hf := zl_of hf x61 ex61
        refine lv_iinc (v := x61) (lv' := [(1, .int x61), (3, .int z45), (0, .ref h), (2, .int w.2)]) hx hb dX0_voltsOffEven_61 hl (k := 2) rfl (by rw [ex61]; rfl) (by decide) rfl (fun ls hl => ?_)
        exact k_X0_voltsOffEven_J64_4 C hf hP hD hS (lv_sub hl [2, 0, 3] rfl) hE0 hE1
set_option maxHeartbeats 4000000 in
set_option maxRecDepth 100000 in
theorem kl_X0_voltsOffEven_L4 {h q_h_rules q_h_stuck q_h_below q_h_rules_misses q_h_rules_resistors : Nat} {m_h_size : Int32} {m_h_rules_bits : Int32} {m_h_rules_unit : Int32} {m_h_rules_offset : Int32} {m_h_rules_lean : Int32} {m_h_rules_ref : Int32} {m_h_rules_top : Int32} {m_h_stuck : Nat → Int32} {m_h_below : Nat → Int32} (C : cx p s m args meth c cX0_voltsOffEven 4 (some .int) RX0 D cy A) : ∀ (n : Nat) (w : Int32 × Int32) (z : Nat × (Int32 × Int32)) (H : Heap) (locs : List Loc) (ls : Array Slot), zp (f_X0_voltsOffEven_L4 m_h_size m_h_rules_ref m_h_stuck m_h_below) n w = some z → va_P D vwCl [(h, .inr (0, [.ref q_h_rules, .ref q_h_stuck, .ref q_h_below, .int m_h_size])), (q_h_rules, .inr (5, [.int m_h_rules_bits, .int m_h_rules_unit, .int m_h_rules_offset, .int m_h_rules_lean, .int m_h_rules_ref, .int m_h_rules_top, .ref q_h_rules_misses, .ref q_h_rules_resistors])), (q_h_stuck, aI cy 16 m_h_stuck), (q_h_below, aI cy 17 m_h_below)] H → va_D A [(h, .inr (0, [.ref q_h_rules, .ref q_h_stuck, .ref q_h_below, .int m_h_size])), (q_h_rules, .inr (5, [.int m_h_rules_bits, .int m_h_rules_unit, .int m_h_rules_offset, .int m_h_rules_lean, .int m_h_rules_ref, .int m_h_rules_top, .ref q_h_rules_misses, .ref q_h_rules_resistors])), (q_h_stuck, aI cy 16 m_h_stuck), (q_h_below, aI cy 17 m_h_below)] → va_S A s.heap H locs → lv_has ls 4 [(0, .ref h), (1, .int w.1), (2, .int w.2)] → (∀ (H : Heap) (locs : List Loc) (ls : Array Slot), z.1 = 1 → va_P D vwCl [(h, .inr (0, [.ref q_h_rules, .ref q_h_stuck, .ref q_h_below, .int m_h_size])), (q_h_rules, .inr (5, [.int m_h_rules_bits, .int m_h_rules_unit, .int m_h_rules_offset, .int m_h_rules_lean, .int m_h_rules_ref, .int m_h_rules_top, .ref q_h_rules_misses, .ref q_h_rules_resistors])), (q_h_stuck, aI cy 16 m_h_stuck), (q_h_below, aI cy 17 m_h_below)] H → va_D A [(h, .inr (0, [.ref q_h_rules, .ref q_h_stuck, .ref q_h_below, .int m_h_size])), (q_h_rules, .inr (5, [.int m_h_rules_bits, .int m_h_rules_unit, .int m_h_rules_offset, .int m_h_rules_lean, .int m_h_rules_ref, .int m_h_rules_top, .ref q_h_rules_misses, .ref q_h_rules_resistors])), (q_h_stuck, aI cy 16 m_h_stuck), (q_h_below, aI cy 17 m_h_below)] → va_S A s.heap H locs → lv_has ls 4 [(1, .int z.2.1)] → W p l e ({ frames := 4, cells := 0, slots := 0, locals := 88 } : Room) s m args below meth c H locs 0 0 Q (F0 m 70 ls [])) → W p l e ({ frames := 4, cells := 0, slots := 0, locals := 88 } : Room) s m args below meth c H locs 0 0 Q (F0 m 4 ls []) := by
  intro n
  induction n with
  | zero => intro w z H locs ls hf; cases hf
  | succ n ih =>
    intro w z H locs ls hf hP hD hS hl hE1
    obtain ⟨w1, hw, hd⟩ := zp_s hf
    refine k_X0_voltsOffEven_L4 C hw hP hD hS hl (fun H locs ls h0 hP hD hS hl => ?_) (fun H locs ls h0 hP hD hS hl => ?_)
    · rcases hd with ⟨_, h⟩ | ⟨h, _⟩
      · exact ih _ _ _ _ _ h hP hD hS hl hE1
      · exact absurd h0 h
    · rcases hd with ⟨h, _⟩ | ⟨_, h⟩
      · exact absurd (h.symm.trans h0) (by decide)
      · subst h; exact hE1 _ _ _ h0 hP hD hS hl
def f_X0_voltsOffEven (m_h_size : Int32) (m_h_rules_ref : Int32) (m_h_stuck : Nat → Int32) (m_h_below : Nat → Int32) : Option (Int32) :=
  zb (zp (f_X0_voltsOffEven_L4 m_h_size m_h_rules_ref m_h_stuck m_h_below) zF ((0 : Int32), (0 : Int32))) fun z4 =>
  some z4.2.1
set_option maxHeartbeats 4000000 in
set_option maxRecDepth 100000 in
theorem k_X0_voltsOffEven {h q_h_rules q_h_stuck q_h_below q_h_rules_misses q_h_rules_resistors : Nat} {m_h_size : Int32} {m_h_rules_bits : Int32} {m_h_rules_unit : Int32} {m_h_rules_offset : Int32} {m_h_rules_lean : Int32} {m_h_rules_ref : Int32} {m_h_rules_top : Int32} {m_h_stuck : Nat → Int32} {m_h_below : Nat → Int32} {z : Int32} (C : cx p s m args meth c cX0_voltsOffEven 4 (some .int) RX0 D cy A) (hf : f_X0_voltsOffEven m_h_size m_h_rules_ref m_h_stuck m_h_below = some z) (hP : va_P D vwCl [(h, .inr (0, [.ref q_h_rules, .ref q_h_stuck, .ref q_h_below, .int m_h_size])), (q_h_rules, .inr (5, [.int m_h_rules_bits, .int m_h_rules_unit, .int m_h_rules_offset, .int m_h_rules_lean, .int m_h_rules_ref, .int m_h_rules_top, .ref q_h_rules_misses, .ref q_h_rules_resistors])), (q_h_stuck, aI cy 16 m_h_stuck), (q_h_below, aI cy 17 m_h_below)] H) (hD : va_D A [(h, .inr (0, [.ref q_h_rules, .ref q_h_stuck, .ref q_h_below, .int m_h_size])), (q_h_rules, .inr (5, [.int m_h_rules_bits, .int m_h_rules_unit, .int m_h_rules_offset, .int m_h_rules_lean, .int m_h_rules_ref, .int m_h_rules_top, .ref q_h_rules_misses, .ref q_h_rules_resistors])), (q_h_stuck, aI cy 16 m_h_stuck), (q_h_below, aI cy 17 m_h_below)]) (hS : va_S A s.heap H locs) (hl : lv_has ls 4 [(0, .ref h)]) : W p l e ({ frames := 4, cells := 0, slots := 0, locals := 88 } : Room) s m args below meth c H locs 0 0 (MQ below (kqi D cy [(h, .inr (0, [.ref q_h_rules, .ref q_h_stuck, .ref q_h_below, .int m_h_size])), (q_h_rules, .inr (5, [.int m_h_rules_bits, .int m_h_rules_unit, .int m_h_rules_offset, .int m_h_rules_lean, .int m_h_rules_ref, .int m_h_rules_top, .ref q_h_rules_misses, .ref q_h_rules_resistors])), (q_h_stuck, aI cy 16 m_h_stuck), (q_h_below, aI cy 17 m_h_below)] z A) args s 0 0 A) (F0 m 0 ls []) := by
  obtain ⟨hx, hb, hr, hml, hown, hts, hlk, hK, hA, hN⟩ := id C
  unfold f_X0_voltsOffEven at hf
  refine lv_iconst (v := 0) hx hb dX0_voltsOffEven_0 (by decide) ?_
  refine lv_istore_n (lv' := [(1, .int (0 : Int32)), (0, .ref h)]) hx hb dX0_voltsOffEven_1 rfl hl (by decide) rfl (fun ls hl => ?_)
  refine lv_iconst (v := 0) hx hb dX0_voltsOffEven_2 (by decide) ?_
  refine lv_istore_n (lv' := [(2, .int (0 : Int32)), (1, .int (0 : Int32)), (0, .ref h)]) hx hb dX0_voltsOffEven_3 rfl hl (by decide) rfl (fun ls hl => ?_)
  obtain ⟨z4, hz4, hf⟩ := zb_of hf
  refine kl_X0_voltsOffEven_L4 C _ _ _ _ _ _ hz4 hP hD hS (lv_sub hl [2, 1, 0] rfl) (fun H locs ls h0 hP hD hS hl => ?_)
  refine lv_iload_n hx hb dX0_voltsOffEven_70 rfl (lv_at hl 0 rfl) ?_
  obtain rfl := Option.some.inj hf
  exact ret_i C hP hD hS dX0_voltsOffEven_71
set_option maxRecDepth 100000 in
theorem c_X0_voltsOffEven (l : Launch) (D : va_G) (cy : Nat → ClassId) (sz : Nat) (h q_h_rules q_h_stuck q_h_below q_h_rules_misses q_h_rules_resistors : Nat) (m_h_size : Int32) (m_h_rules_bits : Int32) (m_h_rules_unit : Int32) (m_h_rules_offset : Int32) (m_h_rules_lean : Int32) (m_h_rules_ref : Int32) (m_h_rules_top : Int32) (m_h_stuck : Nat → Int32) (m_h_below : Nat → Int32) {z : Int32} (hf : f_X0_voltsOffEven m_h_size m_h_rules_ref m_h_stuck m_h_below = some z) : Met l yX0_voltsOffEven (.code yX0_voltsOffEven cX0_voltsOffEven 4 (some .int) :: tb) ({ frames := 4, cells := 0, slots := 0, locals := 88 } : Room) (kp D cy sz [.ref h] [(h, .inr (0, [.ref q_h_rules, .ref q_h_stuck, .ref q_h_below, .int m_h_size])), (q_h_rules, .inr (5, [.int m_h_rules_bits, .int m_h_rules_unit, .int m_h_rules_offset, .int m_h_rules_lean, .int m_h_rules_ref, .int m_h_rules_top, .ref q_h_rules_misses, .ref q_h_rules_resistors])), (q_h_stuck, aI cy 16 m_h_stuck), (q_h_below, aI cy 17 m_h_below)]) (kqi D cy [(h, .inr (0, [.ref q_h_rules, .ref q_h_stuck, .ref q_h_below, .int m_h_size])), (q_h_rules, .inr (5, [.int m_h_rules_bits, .int m_h_rules_unit, .int m_h_rules_offset, .int m_h_rules_lean, .int m_h_rules_ref, .int m_h_rules_top, .ref q_h_rules_misses, .ref q_h_rules_resistors])), (q_h_stuck, aI cy 16 m_h_stuck), (q_h_below, aI cy 17 m_h_below)] z (va_A [(h, .inr (0, [.ref q_h_rules, .ref q_h_stuck, .ref q_h_below, .int m_h_size])), (q_h_rules, .inr (5, [.int m_h_rules_bits, .int m_h_rules_unit, .int m_h_rules_offset, .int m_h_rules_lean, .int m_h_rules_ref, .int m_h_rules_top, .ref q_h_rules_misses, .ref q_h_rules_resistors])), (q_h_stuck, aI cy 16 m_h_stuck), (q_h_below, aI cy 17 m_h_below)] sz)) 0 0 (va_A [(h, .inr (0, [.ref q_h_rules, .ref q_h_stuck, .ref q_h_below, .int m_h_size])), (q_h_rules, .inr (5, [.int m_h_rules_bits, .int m_h_rules_unit, .int m_h_rules_offset, .int m_h_rules_lean, .int m_h_rules_ref, .int m_h_rules_top, .ref q_h_rules_misses, .ref q_h_rules_resistors])), (q_h_stuck, aI cy 16 m_h_stuck), (q_h_below, aI cy 17 m_h_below)] sz) :=
  met_of (fun A => kqi D cy [(h, .inr (0, [.ref q_h_rules, .ref q_h_stuck, .ref q_h_below, .int m_h_size])), (q_h_rules, .inr (5, [.int m_h_rules_bits, .int m_h_rules_unit, .int m_h_rules_offset, .int m_h_rules_lean, .int m_h_rules_ref, .int m_h_rules_top, .ref q_h_rules_misses, .ref q_h_rules_resistors])), (q_h_stuck, aI cy 16 m_h_stuck), (q_h_below, aI cy 17 m_h_below)] z A) (by decide +kernel) (Nat.le_of_ble_eq_true rfl) (fun p e s m below meth c A ls C hP hD hS hl => k_X0_voltsOffEven C hf hP hD hS hl)
theorem hd_X0_voltsOffEven : yX0_voltsOffEven.cls ≠ "java/lang/invoke/MethodHandle" ∧ yX0_voltsOffEven.cls ≠ "java/lang/invoke/VarHandle" ∧ (parseMethodDescriptor yX0_voltsOffEven.desc).map (fun d => d.parameters.length) = some 0 := by decide +kernel
def f_X0_voltsWithGap_J35_4 (v1 : Int32) (v2 : Int32) : Option (Nat × (Int32 × Int32)) :=
  zl (v2 + (1 : Int32)) fun x35 =>
  some (0, (v1, x35))
set_option maxHeartbeats 4000000 in
set_option maxRecDepth 100000 in
theorem k_X0_voltsWithGap_J35_4 {h q_h_rules q_h_stuck q_h_below q_h_rules_misses q_h_rules_resistors : Nat} {v1 : Int32} {v2 : Int32} {m_h_size : Int32} {m_h_rules_bits : Int32} {m_h_rules_unit : Int32} {m_h_rules_offset : Int32} {m_h_rules_lean : Int32} {m_h_rules_ref : Int32} {m_h_rules_top : Int32} {m_h_stuck : Nat → Int32} {m_h_below : Nat → Int32} {z : Nat × (Int32 × Int32)} (C : cx p s m args meth c cX0_voltsWithGap 4 (some .int) RX0 D cy A) (hf : f_X0_voltsWithGap_J35_4 v1 v2 = some z) (hP : va_P D vwCl [(h, .inr (0, [.ref q_h_rules, .ref q_h_stuck, .ref q_h_below, .int m_h_size])), (q_h_rules, .inr (5, [.int m_h_rules_bits, .int m_h_rules_unit, .int m_h_rules_offset, .int m_h_rules_lean, .int m_h_rules_ref, .int m_h_rules_top, .ref q_h_rules_misses, .ref q_h_rules_resistors])), (q_h_stuck, aI cy 16 m_h_stuck), (q_h_below, aI cy 17 m_h_below)] H) (hD : va_D A [(h, .inr (0, [.ref q_h_rules, .ref q_h_stuck, .ref q_h_below, .int m_h_size])), (q_h_rules, .inr (5, [.int m_h_rules_bits, .int m_h_rules_unit, .int m_h_rules_offset, .int m_h_rules_lean, .int m_h_rules_ref, .int m_h_rules_top, .ref q_h_rules_misses, .ref q_h_rules_resistors])), (q_h_stuck, aI cy 16 m_h_stuck), (q_h_below, aI cy 17 m_h_below)]) (hS : va_S A s.heap H locs) (hl : lv_has ls 4 [(0, .ref h), (1, .int v1), (2, .int v2)]) (hE0 : ∀ (H : Heap) (locs : List Loc) (ls : Array Slot), z.1 = 0 → va_P D vwCl [(h, .inr (0, [.ref q_h_rules, .ref q_h_stuck, .ref q_h_below, .int m_h_size])), (q_h_rules, .inr (5, [.int m_h_rules_bits, .int m_h_rules_unit, .int m_h_rules_offset, .int m_h_rules_lean, .int m_h_rules_ref, .int m_h_rules_top, .ref q_h_rules_misses, .ref q_h_rules_resistors])), (q_h_stuck, aI cy 16 m_h_stuck), (q_h_below, aI cy 17 m_h_below)] H → va_D A [(h, .inr (0, [.ref q_h_rules, .ref q_h_stuck, .ref q_h_below, .int m_h_size])), (q_h_rules, .inr (5, [.int m_h_rules_bits, .int m_h_rules_unit, .int m_h_rules_offset, .int m_h_rules_lean, .int m_h_rules_ref, .int m_h_rules_top, .ref q_h_rules_misses, .ref q_h_rules_resistors])), (q_h_stuck, aI cy 16 m_h_stuck), (q_h_below, aI cy 17 m_h_below)] → va_S A s.heap H locs → lv_has ls 4 [(0, .ref h), (1, .int z.2.1), (2, .int z.2.2)] → W p l e ({ frames := 4, cells := 0, slots := 0, locals := 88 } : Room) s m args below meth c H locs 0 0 Q (F0 m 4 ls [])) (hE1 : ∀ (H : Heap) (locs : List Loc) (ls : Array Slot), z.1 = 1 → va_P D vwCl [(h, .inr (0, [.ref q_h_rules, .ref q_h_stuck, .ref q_h_below, .int m_h_size])), (q_h_rules, .inr (5, [.int m_h_rules_bits, .int m_h_rules_unit, .int m_h_rules_offset, .int m_h_rules_lean, .int m_h_rules_ref, .int m_h_rules_top, .ref q_h_rules_misses, .ref q_h_rules_resistors])), (q_h_stuck, aI cy 16 m_h_stuck), (q_h_below, aI cy 17 m_h_below)] H → va_D A [(h, .inr (0, [.ref q_h_rules, .ref q_h_stuck, .ref q_h_below, .int m_h_size])), (q_h_rules, .inr (5, [.int m_h_rules_bits, .int m_h_rules_unit, .int m_h_rules_offset, .int m_h_rules_lean, .int m_h_rules_ref, .int m_h_rules_top, .ref q_h_rules_misses, .ref q_h_rules_resistors])), (q_h_stuck, aI cy 16 m_h_stuck), (q_h_below, aI cy 17 m_h_below)] → va_S A s.heap H locs → lv_has ls 4 [(1, .int z.2.1)] → W p l e ({ frames := 4, cells := 0, slots := 0, locals := 88 } : Room) s m args below meth c H locs 0 0 Q (F0 m 41 ls [])) : W p l e ({ frames := 4, cells := 0, slots := 0, locals := 88 } : Room) s m args below meth c H locs 0 0 Q (F0 m 35 ls []) := by
  obtain ⟨hx, hb, hr, hml, hown, hts, hlk, hK, hA, hN⟩ := id C
  unfold f_X0_voltsWithGap_J35_4 at hf
  obtain ⟨x35, ex35⟩ : ∃ y : Int32, y = v2 + (1 : Int32) := ⟨_, rfl⟩
  have hf := zl_of hf x35 ex35
  refine lv_iinc (v := x35) (lv' := [(2, .int x35), (0, .ref h), (1, .int v1)]) hx hb dX0_voltsWithGap_35 hl (k := 2) rfl (by rw [ex35]; rfl) (by decide) rfl (fun ls hl => ?_)
  refine lv_goto (tgt := 4) hx hb dX0_voltsWithGap_38 (by decide) ?_
  obtain rfl := Option.some.inj hf
  exact hE0 _ _ _ rfl hP hD hS (lv_sub hl [1, 2, 0] rfl)
def f_X0_voltsWithGap_L4 (m_h_size : Int32) (m_h_rules_ref : Int32) (m_h_stuck : Nat → Int32) (m_h_below : Nat → Int32) (w : Int32 × Int32) : Option (Nat × (Int32 × Int32)) :=
  if m_h_rules_ref < w.2 then
    some (1, (w.1, w.2))
  else
    zb (f_X0_wordsOf w.2 m_h_size m_h_rules_ref m_h_stuck m_h_below) fun z17 =>
    zb (f_X0_saying z17) fun z22 =>
    zb (f_X0_edge z17) fun z26 =>
    if z22 = z26 then
      f_X0_voltsWithGap_J35_4 w.1 w.2
    else
      zl (w.1 + (1 : Int32)) fun x32 =>
      f_X0_voltsWithGap_J35_4 x32 w.2
set_option maxHeartbeats 4000000 in
set_option maxRecDepth 100000 in
theorem k_X0_voltsWithGap_L4 {h q_h_rules q_h_stuck q_h_below q_h_rules_misses q_h_rules_resistors : Nat} {m_h_size : Int32} {m_h_rules_bits : Int32} {m_h_rules_unit : Int32} {m_h_rules_offset : Int32} {m_h_rules_lean : Int32} {m_h_rules_ref : Int32} {m_h_rules_top : Int32} {m_h_stuck : Nat → Int32} {m_h_below : Nat → Int32} {w : Int32 × Int32} {z : Nat × (Int32 × Int32)} (C : cx p s m args meth c cX0_voltsWithGap 4 (some .int) RX0 D cy A) (hf : f_X0_voltsWithGap_L4 m_h_size m_h_rules_ref m_h_stuck m_h_below w = some z) (hP : va_P D vwCl [(h, .inr (0, [.ref q_h_rules, .ref q_h_stuck, .ref q_h_below, .int m_h_size])), (q_h_rules, .inr (5, [.int m_h_rules_bits, .int m_h_rules_unit, .int m_h_rules_offset, .int m_h_rules_lean, .int m_h_rules_ref, .int m_h_rules_top, .ref q_h_rules_misses, .ref q_h_rules_resistors])), (q_h_stuck, aI cy 16 m_h_stuck), (q_h_below, aI cy 17 m_h_below)] H) (hD : va_D A [(h, .inr (0, [.ref q_h_rules, .ref q_h_stuck, .ref q_h_below, .int m_h_size])), (q_h_rules, .inr (5, [.int m_h_rules_bits, .int m_h_rules_unit, .int m_h_rules_offset, .int m_h_rules_lean, .int m_h_rules_ref, .int m_h_rules_top, .ref q_h_rules_misses, .ref q_h_rules_resistors])), (q_h_stuck, aI cy 16 m_h_stuck), (q_h_below, aI cy 17 m_h_below)]) (hS : va_S A s.heap H locs) (hl : lv_has ls 4 [(0, .ref h), (1, .int w.1), (2, .int w.2)]) (hE0 : ∀ (H : Heap) (locs : List Loc) (ls : Array Slot), z.1 = 0 → va_P D vwCl [(h, .inr (0, [.ref q_h_rules, .ref q_h_stuck, .ref q_h_below, .int m_h_size])), (q_h_rules, .inr (5, [.int m_h_rules_bits, .int m_h_rules_unit, .int m_h_rules_offset, .int m_h_rules_lean, .int m_h_rules_ref, .int m_h_rules_top, .ref q_h_rules_misses, .ref q_h_rules_resistors])), (q_h_stuck, aI cy 16 m_h_stuck), (q_h_below, aI cy 17 m_h_below)] H → va_D A [(h, .inr (0, [.ref q_h_rules, .ref q_h_stuck, .ref q_h_below, .int m_h_size])), (q_h_rules, .inr (5, [.int m_h_rules_bits, .int m_h_rules_unit, .int m_h_rules_offset, .int m_h_rules_lean, .int m_h_rules_ref, .int m_h_rules_top, .ref q_h_rules_misses, .ref q_h_rules_resistors])), (q_h_stuck, aI cy 16 m_h_stuck), (q_h_below, aI cy 17 m_h_below)] → va_S A s.heap H locs → lv_has ls 4 [(0, .ref h), (1, .int z.2.1), (2, .int z.2.2)] → W p l e ({ frames := 4, cells := 0, slots := 0, locals := 88 } : Room) s m args below meth c H locs 0 0 Q (F0 m 4 ls [])) (hE1 : ∀ (H : Heap) (locs : List Loc) (ls : Array Slot), z.1 = 1 → va_P D vwCl [(h, .inr (0, [.ref q_h_rules, .ref q_h_stuck, .ref q_h_below, .int m_h_size])), (q_h_rules, .inr (5, [.int m_h_rules_bits, .int m_h_rules_unit, .int m_h_rules_offset, .int m_h_rules_lean, .int m_h_rules_ref, .int m_h_rules_top, .ref q_h_rules_misses, .ref q_h_rules_resistors])), (q_h_stuck, aI cy 16 m_h_stuck), (q_h_below, aI cy 17 m_h_below)] H → va_D A [(h, .inr (0, [.ref q_h_rules, .ref q_h_stuck, .ref q_h_below, .int m_h_size])), (q_h_rules, .inr (5, [.int m_h_rules_bits, .int m_h_rules_unit, .int m_h_rules_offset, .int m_h_rules_lean, .int m_h_rules_ref, .int m_h_rules_top, .ref q_h_rules_misses, .ref q_h_rules_resistors])), (q_h_stuck, aI cy 16 m_h_stuck), (q_h_below, aI cy 17 m_h_below)] → va_S A s.heap H locs → lv_has ls 4 [(1, .int z.2.1)] → W p l e ({ frames := 4, cells := 0, slots := 0, locals := 88 } : Room) s m args below meth c H locs 0 0 Q (F0 m 41 ls [])) : W p l e ({ frames := 4, cells := 0, slots := 0, locals := 88 } : Room) s m args below meth c H locs 0 0 Q (F0 m 4 ls []) := by
  obtain ⟨hx, hb, hr, hml, hown, hts, hlk, hK, hA, hN⟩ := id C
  unfold f_X0_voltsWithGap_L4 at hf
  refine lv_iload_n hx hb dX0_voltsWithGap_4 rfl (lv_at hl 2 rfl) ?_
  refine lv_aload_n hx hb dX0_voltsWithGap_5 rfl (lv_at hl 0 rfl) ?_
  refine va_get (D := D) (ci := 0) (v := .ref q_h_rules) (C := RX0) (T := TX0) (N := 4) hx hb hts ui_X0 hown hK hP 0 rfl rfl 0 (by decide) (hts _ fl_X0_24) (fun _ h9 => h9) rfl dX0_voltsWithGap_6 ?_
  refine va_get (D := D) (ci := 5) (v := .int m_h_rules_ref) (C := RX5) (T := TX5) (N := 8) hx hb hts ui_X5 hown hK hP 1 rfl rfl 4 (by decide) (hts _ fl_X0_48) (fun _ h9 => h9) rfl dX0_voltsWithGap_9 ?_
  refine lv_icmp_gt (tgt := 41) hx hb dX0_voltsWithGap_12 (by decide) (fun c12 => ?_) (fun c12 => ?_)
  · have hf := zt c12 hf
    obtain rfl := Option.some.inj hf
    exact hE1 _ _ _ rfl hP hD hS (lv_sub hl [1] rfl)
  · have hf := zf c12 hf
    refine lv_aload_n hx hb dX0_voltsWithGap_15 rfl (lv_at hl 0 rfl) ?_
    refine lv_iload_n hx hb dX0_voltsWithGap_16 rfl (lv_at hl 2 rfl) ?_
    obtain ⟨z17, hz17, hf⟩ := zb_of hf
    refine goI (wr := []) (ws' := [(h, .inr (0, [.ref q_h_rules, .ref q_h_stuck, .ref q_h_below, .int m_h_size])), (q_h_rules, .inr (5, [.int m_h_rules_bits, .int m_h_rules_unit, .int m_h_rules_offset, .int m_h_rules_lean, .int m_h_rules_ref, .int m_h_rules_top, .ref q_h_rules_misses, .ref q_h_rules_resistors])), (q_h_stuck, aI cy 16 m_h_stuck), (q_h_below, aI cy 17 m_h_below)]) C (runV (n := 1) (As := [.int w.2]) (rest := []) C (c_X0_wordsOf l D cy H.size h q_h_rules q_h_stuck q_h_below q_h_rules_misses q_h_rules_resistors w.2 m_h_size m_h_rules_bits m_h_rules_unit m_h_rules_offset m_h_rules_lean m_h_rules_ref m_h_rules_top m_h_stuck m_h_below hz17) ml_X0_64 im_X0_wordsOf se_X0_wordsOf ii_X0 cd_X0_wordsOf hd_X0_wordsOf rfl rfl ⟨Nat.le_of_ble_eq_true rfl, Nat.le_of_ble_eq_true rfl⟩ (hP.sub [0, 1, 2, 3] rfl) (hD.sub [0, 1, 2, 3] (by decide) rfl) hS rfl rfl rfl hl.1 rfl (Nat.le_of_ble_eq_true rfl) dX0_voltsWithGap_17) hP hD hS [0, 1, 2, 3] [] [0, 1, 2, 3] rfl rfl (by decide) (by decide) rfl (by decide) (fun H locs hP hD hS => ?_)
    refine lv_istore_n (lv' := [(3, .int z17), (0, .ref h), (1, .int w.1), (2, .int w.2)]) hx hb dX0_voltsWithGap_20 rfl hl (by decide) rfl (fun ls hl => ?_)
    refine lv_iload_n hx hb dX0_voltsWithGap_21 rfl (lv_at hl 0 rfl) ?_
    obtain ⟨z22, hz22, hf⟩ := zb_of hf
    refine goI (wr := [(h, .inr (0, [.ref q_h_rules, .ref q_h_stuck, .ref q_h_below, .int m_h_size])), (q_h_rules, .inr (5, [.int m_h_rules_bits, .int m_h_rules_unit, .int m_h_rules_offset, .int m_h_rules_lean, .int m_h_rules_ref, .int m_h_rules_top, .ref q_h_rules_misses, .ref q_h_rules_resistors])), (q_h_stuck, aI cy 16 m_h_stuck), (q_h_below, aI cy 17 m_h_below)]) (ws' := [(h, .inr (0, [.ref q_h_rules, .ref q_h_stuck, .ref q_h_below, .int m_h_size])), (q_h_rules, .inr (5, [.int m_h_rules_bits, .int m_h_rules_unit, .int m_h_rules_offset, .int m_h_rules_lean, .int m_h_rules_ref, .int m_h_rules_top, .ref q_h_rules_misses, .ref q_h_rules_resistors])), (q_h_stuck, aI cy 16 m_h_stuck), (q_h_below, aI cy 17 m_h_below)]) C (runS (n := 1) (As := [.int z17]) (rest := []) C (c_X0_saying l D cy H.size z17 hz22) ml_X0_67 st_X0_saying ii_X0 cd_X0_saying hd_X0_saying rfl rfl ⟨Nat.le_of_ble_eq_true rfl, Nat.le_of_ble_eq_true rfl⟩ (hP.sub [] rfl) (hD.sub [] (by decide) rfl) hS rfl hl.1 rfl (Nat.le_of_ble_eq_true rfl) dX0_voltsWithGap_22) hP hD hS [] [0, 1, 2, 3] [0, 1, 2, 3] rfl rfl (by decide) (by decide) rfl (by decide) (fun H locs hP hD hS => ?_)
    refine lv_iload_n hx hb dX0_voltsWithGap_25 rfl (lv_at hl 0 rfl) ?_
    obtain ⟨z26, hz26, hf⟩ := zb_of hf
    refine goI (wr := [(h, .inr (0, [.ref q_h_rules, .ref q_h_stuck, .ref q_h_below, .int m_h_size])), (q_h_rules, .inr (5, [.int m_h_rules_bits, .int m_h_rules_unit, .int m_h_rules_offset, .int m_h_rules_lean, .int m_h_rules_ref, .int m_h_rules_top, .ref q_h_rules_misses, .ref q_h_rules_resistors])), (q_h_stuck, aI cy 16 m_h_stuck), (q_h_below, aI cy 17 m_h_below)]) (ws' := [(h, .inr (0, [.ref q_h_rules, .ref q_h_stuck, .ref q_h_below, .int m_h_size])), (q_h_rules, .inr (5, [.int m_h_rules_bits, .int m_h_rules_unit, .int m_h_rules_offset, .int m_h_rules_lean, .int m_h_rules_ref, .int m_h_rules_top, .ref q_h_rules_misses, .ref q_h_rules_resistors])), (q_h_stuck, aI cy 16 m_h_stuck), (q_h_below, aI cy 17 m_h_below)]) C (runS (n := 1) (As := [.int z17]) (rest := [.int z22]) C (c_X0_edge l D cy H.size z17 hz26) ml_X0_70 st_X0_edge ii_X0 cd_X0_edge hd_X0_edge rfl rfl ⟨Nat.le_of_ble_eq_true rfl, Nat.le_of_ble_eq_true rfl⟩ (hP.sub [] rfl) (hD.sub [] (by decide) rfl) hS rfl hl.1 rfl (Nat.le_of_ble_eq_true rfl) dX0_voltsWithGap_26) hP hD hS [] [0, 1, 2, 3] [0, 1, 2, 3] rfl rfl (by decide) (by decide) rfl (by decide) (fun H locs hP hD hS => ?_)
    refine lv_icmp_eq (tgt := 35) hx hb dX0_voltsWithGap_29 (by decide) (fun c29 => ?_) (fun c29 => ?_)
    · have hf := zt c29 hf
      exact k_X0_voltsWithGap_J35_4 C hf hP hD hS (lv_sub hl [1, 2, 3] rfl) hE0 hE1
    · have hf := zf c29 hf
      obtain ⟨x32, ex32⟩ : ∃ y : Int32, y = w.1 + (1 : Int32) := ⟨_, rfl⟩
      have hf := zl_of hf x32 ex32
      refine lv_iinc (v := x32) (lv' := [(1, .int x32), (3, .int z17), (0, .ref h), (2, .int w.2)]) hx hb dX0_voltsWithGap_32 hl (k := 2) rfl (by rw [ex32]; rfl) (by decide) rfl (fun ls hl => ?_)
      exact k_X0_voltsWithGap_J35_4 C hf hP hD hS (lv_sub hl [2, 0, 3] rfl) hE0 hE1
set_option maxHeartbeats 4000000 in
set_option maxRecDepth 100000 in
theorem kl_X0_voltsWithGap_L4 {h q_h_rules q_h_stuck q_h_below q_h_rules_misses q_h_rules_resistors : Nat} {m_h_size : Int32} {m_h_rules_bits : Int32} {m_h_rules_unit : Int32} {m_h_rules_offset : Int32} {m_h_rules_lean : Int32} {m_h_rules_ref : Int32} {m_h_rules_top : Int32} {m_h_stuck : Nat → Int32} {m_h_below : Nat → Int32} (C : cx p s m args meth c cX0_voltsWithGap 4 (some .int) RX0 D cy A) : ∀ (n : Nat) (w : Int32 × Int32) (z : Nat × (Int32 × Int32)) (H : Heap) (locs : List Loc) (ls : Array Slot), zp (f_X0_voltsWithGap_L4 m_h_size m_h_rules_ref m_h_stuck m_h_below) n w = some z → va_P D vwCl [(h, .inr (0, [.ref q_h_rules, .ref q_h_stuck, .ref q_h_below, .int m_h_size])), (q_h_rules, .inr (5, [.int m_h_rules_bits, .int m_h_rules_unit, .int m_h_rules_offset, .int m_h_rules_lean, .int m_h_rules_ref, .int m_h_rules_top, .ref q_h_rules_misses, .ref q_h_rules_resistors])), (q_h_stuck, aI cy 16 m_h_stuck), (q_h_below, aI cy 17 m_h_below)] H → va_D A [(h, .inr (0, [.ref q_h_rules, .ref q_h_stuck, .ref q_h_below, .int m_h_size])), (q_h_rules, .inr (5, [.int m_h_rules_bits, .int m_h_rules_unit, .int m_h_rules_offset, .int m_h_rules_lean, .int m_h_rules_ref, .int m_h_rules_top, .ref q_h_rules_misses, .ref q_h_rules_resistors])), (q_h_stuck, aI cy 16 m_h_stuck), (q_h_below, aI cy 17 m_h_below)] → va_S A s.heap H locs → lv_has ls 4 [(0, .ref h), (1, .int w.1), (2, .int w.2)] → (∀ (H : Heap) (locs : List Loc) (ls : Array Slot), z.1 = 1 → va_P D vwCl [(h, .inr (0, [.ref q_h_rules, .ref q_h_stuck, .ref q_h_below, .int m_h_size])), (q_h_rules, .inr (5, [.int m_h_rules_bits, .int m_h_rules_unit, .int m_h_rules_offset, .int m_h_rules_lean, .int m_h_rules_ref, .int m_h_rules_top, .ref q_h_rules_misses, .ref q_h_rules_resistors])), (q_h_stuck, aI cy 16 m_h_stuck), (q_h_below, aI cy 17 m_h_below)] H → va_D A [(h, .inr (0, [.ref q_h_rules, .ref q_h_stuck, .ref q_h_below, .int m_h_size])), (q_h_rules, .inr (5, [.int m_h_rules_bits, .int m_h_rules_unit, .int m_h_rules_offset, .int m_h_rules_lean, .int m_h_rules_ref, .int m_h_rules_top, .ref q_h_rules_misses, .ref q_h_rules_resistors])), (q_h_stuck, aI cy 16 m_h_stuck), (q_h_below, aI cy 17 m_h_below)] → va_S A s.heap H locs → lv_has ls 4 [(1, .int z.2.1)] → W p l e ({ frames := 4, cells := 0, slots := 0, locals := 88 } : Room) s m args below meth c H locs 0 0 Q (F0 m 41 ls [])) → W p l e ({ frames := 4, cells := 0, slots := 0, locals := 88 } : Room) s m args below meth c H locs 0 0 Q (F0 m 4 ls []) := by
  intro n
  induction n with
  | zero => intro w z H locs ls hf; cases hf
  | succ n ih =>
    intro w z H locs ls hf hP hD hS hl hE1
    obtain ⟨w1, hw, hd⟩ := zp_s hf
    refine k_X0_voltsWithGap_L4 C hw hP hD hS hl (fun H locs ls h0 hP hD hS hl => ?_) (fun H locs ls h0 hP hD hS hl => ?_)
    · rcases hd with ⟨_, h⟩ | ⟨h, _⟩
      · exact ih _ _ _ _ _ h hP hD hS hl hE1
      · exact absurd h0 h
    · rcases hd with ⟨h, _⟩ | ⟨_, h⟩
      · exact absurd (h.symm.trans h0) (by decide)
      · subst h; exact hE1 _ _ _ h0 hP hD hS hl
def f_X0_voltsWithGap (m_h_size : Int32) (m_h_rules_ref : Int32) (m_h_stuck : Nat → Int32) (m_h_below : Nat → Int32) : Option (Int32) :=
  zb (zp (f_X0_voltsWithGap_L4 m_h_size m_h_rules_ref m_h_stuck m_h_below) zF ((0 : Int32), (0 : Int32))) fun z4 =>
  some z4.2.1
set_option maxHeartbeats 4000000 in
set_option maxRecDepth 100000 in
theorem k_X0_voltsWithGap {h q_h_rules q_h_stuck q_h_below q_h_rules_misses q_h_rules_resistors : Nat} {m_h_size : Int32} {m_h_rules_bits : Int32} {m_h_rules_unit : Int32} {m_h_rules_offset : Int32} {m_h_rules_lean : Int32} {m_h_rules_ref : Int32} {m_h_rules_top : Int32} {m_h_stuck : Nat → Int32} {m_h_below : Nat → Int32} {z : Int32} (C : cx p s m args meth c cX0_voltsWithGap 4 (some .int) RX0 D cy A) (hf : f_X0_voltsWithGap m_h_size m_h_rules_ref m_h_stuck m_h_below = some z) (hP : va_P D vwCl [(h, .inr (0, [.ref q_h_rules, .ref q_h_stuck, .ref q_h_below, .int m_h_size])), (q_h_rules, .inr (5, [.int m_h_rules_bits, .int m_h_rules_unit, .int m_h_rules_offset, .int m_h_rules_lean, .int m_h_rules_ref, .int m_h_rules_top, .ref q_h_rules_misses, .ref q_h_rules_resistors])), (q_h_stuck, aI cy 16 m_h_stuck), (q_h_below, aI cy 17 m_h_below)] H) (hD : va_D A [(h, .inr (0, [.ref q_h_rules, .ref q_h_stuck, .ref q_h_below, .int m_h_size])), (q_h_rules, .inr (5, [.int m_h_rules_bits, .int m_h_rules_unit, .int m_h_rules_offset, .int m_h_rules_lean, .int m_h_rules_ref, .int m_h_rules_top, .ref q_h_rules_misses, .ref q_h_rules_resistors])), (q_h_stuck, aI cy 16 m_h_stuck), (q_h_below, aI cy 17 m_h_below)]) (hS : va_S A s.heap H locs) (hl : lv_has ls 4 [(0, .ref h)]) : W p l e ({ frames := 4, cells := 0, slots := 0, locals := 88 } : Room) s m args below meth c H locs 0 0 (MQ below (kqi D cy [(h, .inr (0, [.ref q_h_rules, .ref q_h_stuck, .ref q_h_below, .int m_h_size])), (q_h_rules, .inr (5, [.int m_h_rules_bits, .int m_h_rules_unit, .int m_h_rules_offset, .int m_h_rules_lean, .int m_h_rules_ref, .int m_h_rules_top, .ref q_h_rules_misses, .ref q_h_rules_resistors])), (q_h_stuck, aI cy 16 m_h_stuck), (q_h_below, aI cy 17 m_h_below)] z A) args s 0 0 A) (F0 m 0 ls []) := by
  obtain ⟨hx, hb, hr, hml, hown, hts, hlk, hK, hA, hN⟩ := id C
  unfold f_X0_voltsWithGap at hf
  refine lv_iconst (v := 0) hx hb dX0_voltsWithGap_0 (by decide) ?_
  refine lv_istore_n (lv' := [(1, .int (0 : Int32)), (0, .ref h)]) hx hb dX0_voltsWithGap_1 rfl hl (by decide) rfl (fun ls hl => ?_)
  refine lv_iconst (v := 0) hx hb dX0_voltsWithGap_2 (by decide) ?_
  refine lv_istore_n (lv' := [(2, .int (0 : Int32)), (1, .int (0 : Int32)), (0, .ref h)]) hx hb dX0_voltsWithGap_3 rfl hl (by decide) rfl (fun ls hl => ?_)
  obtain ⟨z4, hz4, hf⟩ := zb_of hf
  refine kl_X0_voltsWithGap_L4 C _ _ _ _ _ _ hz4 hP hD hS (lv_sub hl [2, 1, 0] rfl) (fun H locs ls h0 hP hD hS hl => ?_)
  refine lv_iload_n hx hb dX0_voltsWithGap_41 rfl (lv_at hl 0 rfl) ?_
  obtain rfl := Option.some.inj hf
  exact ret_i C hP hD hS dX0_voltsWithGap_42
set_option maxRecDepth 100000 in
theorem c_X0_voltsWithGap (l : Launch) (D : va_G) (cy : Nat → ClassId) (sz : Nat) (h q_h_rules q_h_stuck q_h_below q_h_rules_misses q_h_rules_resistors : Nat) (m_h_size : Int32) (m_h_rules_bits : Int32) (m_h_rules_unit : Int32) (m_h_rules_offset : Int32) (m_h_rules_lean : Int32) (m_h_rules_ref : Int32) (m_h_rules_top : Int32) (m_h_stuck : Nat → Int32) (m_h_below : Nat → Int32) {z : Int32} (hf : f_X0_voltsWithGap m_h_size m_h_rules_ref m_h_stuck m_h_below = some z) : Met l yX0_voltsWithGap (.code yX0_voltsWithGap cX0_voltsWithGap 4 (some .int) :: tb) ({ frames := 4, cells := 0, slots := 0, locals := 88 } : Room) (kp D cy sz [.ref h] [(h, .inr (0, [.ref q_h_rules, .ref q_h_stuck, .ref q_h_below, .int m_h_size])), (q_h_rules, .inr (5, [.int m_h_rules_bits, .int m_h_rules_unit, .int m_h_rules_offset, .int m_h_rules_lean, .int m_h_rules_ref, .int m_h_rules_top, .ref q_h_rules_misses, .ref q_h_rules_resistors])), (q_h_stuck, aI cy 16 m_h_stuck), (q_h_below, aI cy 17 m_h_below)]) (kqi D cy [(h, .inr (0, [.ref q_h_rules, .ref q_h_stuck, .ref q_h_below, .int m_h_size])), (q_h_rules, .inr (5, [.int m_h_rules_bits, .int m_h_rules_unit, .int m_h_rules_offset, .int m_h_rules_lean, .int m_h_rules_ref, .int m_h_rules_top, .ref q_h_rules_misses, .ref q_h_rules_resistors])), (q_h_stuck, aI cy 16 m_h_stuck), (q_h_below, aI cy 17 m_h_below)] z (va_A [(h, .inr (0, [.ref q_h_rules, .ref q_h_stuck, .ref q_h_below, .int m_h_size])), (q_h_rules, .inr (5, [.int m_h_rules_bits, .int m_h_rules_unit, .int m_h_rules_offset, .int m_h_rules_lean, .int m_h_rules_ref, .int m_h_rules_top, .ref q_h_rules_misses, .ref q_h_rules_resistors])), (q_h_stuck, aI cy 16 m_h_stuck), (q_h_below, aI cy 17 m_h_below)] sz)) 0 0 (va_A [(h, .inr (0, [.ref q_h_rules, .ref q_h_stuck, .ref q_h_below, .int m_h_size])), (q_h_rules, .inr (5, [.int m_h_rules_bits, .int m_h_rules_unit, .int m_h_rules_offset, .int m_h_rules_lean, .int m_h_rules_ref, .int m_h_rules_top, .ref q_h_rules_misses, .ref q_h_rules_resistors])), (q_h_stuck, aI cy 16 m_h_stuck), (q_h_below, aI cy 17 m_h_below)] sz) :=
  met_of (fun A => kqi D cy [(h, .inr (0, [.ref q_h_rules, .ref q_h_stuck, .ref q_h_below, .int m_h_size])), (q_h_rules, .inr (5, [.int m_h_rules_bits, .int m_h_rules_unit, .int m_h_rules_offset, .int m_h_rules_lean, .int m_h_rules_ref, .int m_h_rules_top, .ref q_h_rules_misses, .ref q_h_rules_resistors])), (q_h_stuck, aI cy 16 m_h_stuck), (q_h_below, aI cy 17 m_h_below)] z A) (by decide +kernel) (Nat.le_of_ble_eq_true rfl) (fun p e s m below meth c A ls C hP hD hS hl => k_X0_voltsWithGap C hf hP hD hS hl)
theorem hd_X0_voltsWithGap : yX0_voltsWithGap.cls ≠ "java/lang/invoke/MethodHandle" ∧ yX0_voltsWithGap.cls ≠ "java/lang/invoke/VarHandle" ∧ (parseMethodDescriptor yX0_voltsWithGap.desc).map (fun d => d.parameters.length) = some 0 := by decide +kernel
