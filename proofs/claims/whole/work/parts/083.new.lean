def f_X5_init : Option (Int32 × Int32 × Int32 × Int32 × Int32 × Int32 × (Nat → Int32) × (Nat → Int32)) :=
  zb (f_X5_reset (fun _ => (0 : Int32)) (fun _ => (0 : Int32))) fun z21_12 =>
  some (z21_12.1, z21_12.2.1, z21_12.2.2.1, z21_12.2.2.2.1, z21_12.2.2.2.2.1, z21_12.2.2.2.2.2.1, z21_12.2.2.2.2.2.2.1, z21_12.2.2.2.2.2.2.2)
set_option maxHeartbeats 4000000 in
set_option maxRecDepth 100000 in
theorem c_X5_init (l : Launch) (D : va_G) (cy : Nat → ClassId) (sz : Nat) (h : Nat)  {z : Int32 × Int32 × Int32 × Int32 × Int32 × Int32 × (Nat → Int32) × (Nat → Int32)} (hf : f_X5_init = some z) : Met l yX5_init (.code yX5_init cX5_init 1 none :: tb) ({ frames := 2, cells := 2, slots := 25, locals := 43 } : Room) (fun v U => kp D cy sz [.ref h] [(h, .inr (5, [.int (0 : Int32), .int (0 : Int32), .int (0 : Int32), .int (0 : Int32), .int (0 : Int32), .int (0 : Int32), .null, .null]))] v U ∧ True) (kqn D cy (fun u => [(h, .inr (5, [.int z.1, .int z.2.1, .int z.2.2.1, .int z.2.2.2.1, .int z.2.2.2.2.1, .int z.2.2.2.2.2.1, .ref (u 0), .ref (u 1)])), ((u 0), aI cy 9 z.2.2.2.2.2.2.1), ((u 1), aI cy 16 z.2.2.2.2.2.2.2)]) (va_A [(h, .inr (5, [.int (0 : Int32), .int (0 : Int32), .int (0 : Int32), .int (0 : Int32), .int (0 : Int32), .int (0 : Int32), .null, .null]))] sz)) 2 25 (va_A [(h, .inr (5, [.int (0 : Int32), .int (0 : Int32), .int (0 : Int32), .int (0 : Int32), .int (0 : Int32), .int (0 : Int32), .null, .null]))] sz) := by
  refine met_ofN (Px := fun U => True) (fun A => kqn D cy (fun u => [(h, .inr (5, [.int z.1, .int z.2.1, .int z.2.2.1, .int z.2.2.2.1, .int z.2.2.2.2.1, .int z.2.2.2.2.2.1, .ref (u 0), .ref (u 1)])), ((u 0), aI cy 9 z.2.2.2.2.2.2.1), ((u 1), aI cy 16 z.2.2.2.2.2.2.2)]) A) (by decide +kernel) (Nat.le_of_ble_eq_true rfl) (fun p e s m below meth c A ls C hin ho hP hD hS hl => ?_)
  obtain ⟨hx, hb, hr, hml, hown, hts, hlk, hK, hA, hN⟩ := id C
  unfold f_X5_init at hf
  have hl : lv_has ls 1 [(0, .ref h)] := hl
  refine lv_aload_n hx hb dX5_init_0 rfl (lv_at hl 0 rfl) ?_
  refine W.objInit hx hb hown (hts _ ml_X5_1) (hts _ im_Obj_init) (hts _ cd_Obj_init) rfl (by rw [hml]; exact hl.1) rfl dX5_init_1 (Nat.le_of_ble_eq_true rfl) (Nat.le_of_ble_eq_true rfl) ?_
  refine W.eq (g2 := F0 m 4 ls []) rfl ?_
  refine lv_aload_n hx hb dX5_init_4 rfl (lv_at hl 0 rfl) ?_
  refine lv_bipush (v := 9) hx hb dX5_init_5 (by decide) ?_
  refine newI C hP hD hS (by decide) rfl (Nat.le_of_ble_eq_true rfl) (Nat.le_of_ble_eq_true rfl) (Nat.le_of_ble_eq_true rfl) dX5_init_7 (fun q7 H hP hD hS => ?_)
  have hP : va_P D vwCl [(h, .inr (5, [.int (0 : Int32), .int (0 : Int32), .int (0 : Int32), .int (0 : Int32), .int (0 : Int32), .int (0 : Int32), .null, .null])), (q7, aI cy 9 (fun _ => 0))] H := hP
  have hD : va_D A [(h, .inr (5, [.int (0 : Int32), .int (0 : Int32), .int (0 : Int32), .int (0 : Int32), .int (0 : Int32), .int (0 : Int32), .null, .null])), (q7, aI cy 9 (fun _ => 0))] := hD
  refine W.widen (k := 1) (n := 9) (Nat.le_refl _) (Nat.le_refl _) ?_
  refine va_putF (D := D) (ci := 5) (v := .ref q7) (ty := (.array .int)) (C := RX5) (T := TX5) (N := 8) hx hb hts ui_X5 tyX5 tyX5_ok nmX5 hown hK hP hD hS 0 rfl rfl 6 (by decide) (hts _ fl_X5_9) (fun _ h9 => h9) rfl hin rfl (by decide +kernel) rfl rfl (Nat.le_of_ble_eq_true rfl) dX5_init_9 (fun H locs hP hD hS => ?_)
  have hP : va_P D vwCl [(h, .inr (5, [.int (0 : Int32), .int (0 : Int32), .int (0 : Int32), .int (0 : Int32), .int (0 : Int32), .int (0 : Int32), .ref q7, .null])), (q7, aI cy 9 (fun _ => 0))] H := hP
  have hD : va_D A [(h, .inr (5, [.int (0 : Int32), .int (0 : Int32), .int (0 : Int32), .int (0 : Int32), .int (0 : Int32), .int (0 : Int32), .ref q7, .null])), (q7, aI cy 9 (fun _ => 0))] := hD
  refine lv_aload_n hx hb dX5_init_12 rfl (lv_at hl 0 rfl) ?_
  refine lv_bipush (v := 16) hx hb dX5_init_13 (by decide) ?_
  refine newI C hP hD hS (by decide) rfl (Nat.le_of_ble_eq_true rfl) (Nat.le_of_ble_eq_true rfl) (Nat.le_of_ble_eq_true rfl) dX5_init_15 (fun q15 H hP hD hS => ?_)
  have hP : va_P D vwCl [(h, .inr (5, [.int (0 : Int32), .int (0 : Int32), .int (0 : Int32), .int (0 : Int32), .int (0 : Int32), .int (0 : Int32), .ref q7, .null])), (q7, aI cy 9 (fun _ => 0)), (q15, aI cy 16 (fun _ => 0))] H := hP
  have hD : va_D A [(h, .inr (5, [.int (0 : Int32), .int (0 : Int32), .int (0 : Int32), .int (0 : Int32), .int (0 : Int32), .int (0 : Int32), .ref q7, .null])), (q7, aI cy 9 (fun _ => 0)), (q15, aI cy 16 (fun _ => 0))] := hD
  refine W.widen (k := 2) (n := 25) (Nat.le_refl _) (Nat.le_refl _) ?_
  refine va_putF (D := D) (ci := 5) (v := .ref q15) (ty := (.array .int)) (C := RX5) (T := TX5) (N := 8) hx hb hts ui_X5 tyX5 tyX5_ok nmX5 hown hK hP hD hS 0 rfl rfl 7 (by decide) (hts _ fl_X5_13) (fun _ h9 => h9) rfl hin rfl (by decide +kernel) rfl rfl (Nat.le_of_ble_eq_true rfl) dX5_init_17 (fun H locs hP hD hS => ?_)
  have hP : va_P D vwCl [(h, .inr (5, [.int (0 : Int32), .int (0 : Int32), .int (0 : Int32), .int (0 : Int32), .int (0 : Int32), .int (0 : Int32), .ref q7, .ref q15])), (q7, aI cy 9 (fun _ => 0)), (q15, aI cy 16 (fun _ => 0))] H := hP
  have hD : va_D A [(h, .inr (5, [.int (0 : Int32), .int (0 : Int32), .int (0 : Int32), .int (0 : Int32), .int (0 : Int32), .int (0 : Int32), .ref q7, .ref q15])), (q7, aI cy 9 (fun _ => 0)), (q15, aI cy 16 (fun _ => 0))] := hD
  refine lv_aload_n hx hb dX5_init_20 rfl (lv_at hl 0 rfl) ?_
  obtain ⟨z21_12, hz21_12, hf⟩ := zb_of hf
  refine goVc (wr := []) (ws' := [(h, .inr (5, [.int z21_12.1, .int z21_12.2.1, .int z21_12.2.2.1, .int z21_12.2.2.2.1, .int z21_12.2.2.2.2.1, .int z21_12.2.2.2.2.2.1, .ref q7, .ref q15])), (q7, aI cy 9 z21_12.2.2.2.2.2.2.1), (q15, aI cy 16 z21_12.2.2.2.2.2.2.2)]) C (runVc (n := 0) (As := []) (rest := []) C (c_X5_reset l D cy H.size h q7 q15 (0 : Int32) (0 : Int32) (0 : Int32) (0 : Int32) (0 : Int32) (0 : Int32) (fun _ => (0 : Int32)) (fun _ => (0 : Int32)) hz21_12) ml_X5_16 im_X5_reset se_X5_reset ii_X5 cd_X5_reset hd_X5_reset rfl rfl ⟨Nat.le_of_ble_eq_true rfl, Nat.le_of_ble_eq_true rfl⟩ (hP.sub [0, 1, 2] rfl) (hD.sub [0, 1, 2] (by decide) rfl) hS rfl rfl rfl hl.1 rfl (Nat.le_of_ble_eq_true rfl) dX5_init_21 ⟨Nat.le_of_ble_eq_true rfl, Nat.le_of_ble_eq_true rfl⟩) hP hD hS [0, 1, 2] [] [0, 1, 2] rfl rfl (by decide) (by decide) rfl (by decide) (fun H locs hP hD hS => ?_)
  obtain rfl := Option.some.inj hf
  exact ret_n (fun k => ([q7, q15] : List Nat).getD k 0) C (hP.sub [0, 1, 2] rfl) (hD.sub [0, 1, 2] (by decide) rfl) hS dX5_init_24
theorem hd_X5_init : yX5_init.cls ≠ "java/lang/invoke/MethodHandle" ∧ yX5_init.cls ≠ "java/lang/invoke/VarHandle" ∧ (parseMethodDescriptor yX5_init.desc).map (fun d => d.parameters.length) = some 0 := by decide +kernel
def f_X9_init : Option (Int32 × Int32 × Int32 × Int32 × Int32 × (Nat → Int32)) :=
  some ((0 : Int32), (0 : Int32), (0 : Int32), (0 : Int32), (0 : Int32), (fun _ => (0 : Int32)))
set_option maxHeartbeats 4000000 in
set_option maxRecDepth 100000 in
theorem c_X9_init (l : Launch) (D : va_G) (cy : Nat → ClassId) (sz : Nat) (h : Nat)  {z : Int32 × Int32 × Int32 × Int32 × Int32 × (Nat → Int32)} (hf : f_X9_init = some z) : Met l yX9_init (.code yX9_init cX9_init 1 none :: tb) ({ frames := 1, cells := 1, slots := 200, locals := 12 } : Room) (fun v U => kp D cy sz [.ref h] [(h, .inr (9, [.null, .int (0 : Int32), .int (0 : Int32), .int (0 : Int32), .int (0 : Int32), .int (0 : Int32)]))] v U ∧ True) (kqn D cy (fun u => [(h, .inr (9, [.ref (u 0), .int z.1, .int z.2.1, .int z.2.2.1, .int z.2.2.2.1, .int z.2.2.2.2.1])), ((u 0), aB cy 200 z.2.2.2.2.2)]) (va_A [(h, .inr (9, [.null, .int (0 : Int32), .int (0 : Int32), .int (0 : Int32), .int (0 : Int32), .int (0 : Int32)]))] sz)) 1 200 (va_A [(h, .inr (9, [.null, .int (0 : Int32), .int (0 : Int32), .int (0 : Int32), .int (0 : Int32), .int (0 : Int32)]))] sz) := by
  refine met_ofN (Px := fun U => True) (fun A => kqn D cy (fun u => [(h, .inr (9, [.ref (u 0), .int z.1, .int z.2.1, .int z.2.2.1, .int z.2.2.2.1, .int z.2.2.2.2.1])), ((u 0), aB cy 200 z.2.2.2.2.2)]) A) (by decide +kernel) (Nat.le_of_ble_eq_true rfl) (fun p e s m below meth c A ls C hin ho hP hD hS hl => ?_)
  obtain ⟨hx, hb, hr, hml, hown, hts, hlk, hK, hA, hN⟩ := id C
  unfold f_X9_init at hf
  have hl : lv_has ls 1 [(0, .ref h)] := hl
  refine lv_aload_n hx hb dX9_init_0 rfl (lv_at hl 0 rfl) ?_
  refine W.objInit hx hb hown (hts _ ml_X9_1) (hts _ im_Obj_init) (hts _ cd_Obj_init) rfl (by rw [hml]; exact hl.1) rfl dX9_init_1 (Nat.le_of_ble_eq_true rfl) (Nat.le_of_ble_eq_true rfl) ?_
  refine W.eq (g2 := F0 m 4 ls []) rfl ?_
  refine lv_aload_n hx hb dX9_init_4 rfl (lv_at hl 0 rfl) ?_
  refine lv_sipush (v := 200) hx hb dX9_init_5 (by decide) ?_
  refine newB C hP hD hS (by decide) rfl (Nat.le_of_ble_eq_true rfl) (Nat.le_of_ble_eq_true rfl) (Nat.le_of_ble_eq_true rfl) dX9_init_8 (fun q8 H hP hD hS => ?_)
  have hP : va_P D vwCl [(h, .inr (9, [.null, .int (0 : Int32), .int (0 : Int32), .int (0 : Int32), .int (0 : Int32), .int (0 : Int32)])), (q8, aB cy 200 (fun _ => 0))] H := hP
  have hD : va_D A [(h, .inr (9, [.null, .int (0 : Int32), .int (0 : Int32), .int (0 : Int32), .int (0 : Int32), .int (0 : Int32)])), (q8, aB cy 200 (fun _ => 0))] := hD
  refine W.widen (k := 1) (n := 200) (Nat.le_refl _) (Nat.le_refl _) ?_
  refine va_putF (D := D) (ci := 9) (v := .ref q8) (ty := (.array .byte)) (C := RX9) (T := TX9) (N := 6) hx hb hts ui_X9 tyX9 tyX9_ok nmX9 hown hK hP hD hS 0 rfl rfl 0 (by decide) (hts _ fl_X9_9) (fun _ h9 => h9) rfl hin rfl (by decide +kernel) rfl rfl (Nat.le_of_ble_eq_true rfl) dX9_init_10 (fun H locs hP hD hS => ?_)
  have hP : va_P D vwCl [(h, .inr (9, [.ref q8, .int (0 : Int32), .int (0 : Int32), .int (0 : Int32), .int (0 : Int32), .int (0 : Int32)])), (q8, aB cy 200 (fun _ => 0))] H := hP
  have hD : va_D A [(h, .inr (9, [.ref q8, .int (0 : Int32), .int (0 : Int32), .int (0 : Int32), .int (0 : Int32), .int (0 : Int32)])), (q8, aB cy 200 (fun _ => 0))] := hD
  refine lv_aload_n hx hb dX9_init_13 rfl (lv_at hl 0 rfl) ?_
  refine lv_iconst (v := 0) hx hb dX9_init_14 (by decide) ?_
  refine va_put (D := D) (ci := 9) (v := .int (0 : Int32)) (ty := .int) (C := RX9) (T := TX9) (N := 6) hx hb hts ui_X9 tyX9 tyX9_ok nmX9 hown hK hP hD hS 0 rfl rfl 1 (by decide) (hts _ fl_X9_13) (fun _ h9 => h9) rfl (by decide +kernel) rfl rfl (Nat.le_of_ble_eq_true rfl) dX9_init_15 (fun H locs hP hD hS => ?_)
  have hP : va_P D vwCl [(h, .inr (9, [.ref q8, .int (0 : Int32), .int (0 : Int32), .int (0 : Int32), .int (0 : Int32), .int (0 : Int32)])), (q8, aB cy 200 (fun _ => 0))] H := hP
  have hD : va_D A [(h, .inr (9, [.ref q8, .int (0 : Int32), .int (0 : Int32), .int (0 : Int32), .int (0 : Int32), .int (0 : Int32)])), (q8, aB cy 200 (fun _ => 0))] := hD
  refine lv_aload_n hx hb dX9_init_18 rfl (lv_at hl 0 rfl) ?_
  refine lv_iconst (v := 0) hx hb dX9_init_19 (by decide) ?_
  refine va_put (D := D) (ci := 9) (v := .int (0 : Int32)) (ty := .int) (C := RX9) (T := TX9) (N := 6) hx hb hts ui_X9 tyX9 tyX9_ok nmX9 hown hK hP hD hS 0 rfl rfl 2 (by decide) (hts _ fl_X9_17) (fun _ h9 => h9) rfl (by decide +kernel) rfl rfl (Nat.le_of_ble_eq_true rfl) dX9_init_20 (fun H locs hP hD hS => ?_)
  have hP : va_P D vwCl [(h, .inr (9, [.ref q8, .int (0 : Int32), .int (0 : Int32), .int (0 : Int32), .int (0 : Int32), .int (0 : Int32)])), (q8, aB cy 200 (fun _ => 0))] H := hP
  have hD : va_D A [(h, .inr (9, [.ref q8, .int (0 : Int32), .int (0 : Int32), .int (0 : Int32), .int (0 : Int32), .int (0 : Int32)])), (q8, aB cy 200 (fun _ => 0))] := hD
  refine lv_aload_n hx hb dX9_init_23 rfl (lv_at hl 0 rfl) ?_
  refine lv_iconst (v := 0) hx hb dX9_init_24 (by decide) ?_
  refine va_put (D := D) (ci := 9) (v := .int (0 : Int32)) (ty := .int) (C := RX9) (T := TX9) (N := 6) hx hb hts ui_X9 tyX9 tyX9_ok nmX9 hown hK hP hD hS 0 rfl rfl 3 (by decide) (hts _ fl_X9_20) (fun _ h9 => h9) rfl (by decide +kernel) rfl rfl (Nat.le_of_ble_eq_true rfl) dX9_init_25 (fun H locs hP hD hS => ?_)
  have hP : va_P D vwCl [(h, .inr (9, [.ref q8, .int (0 : Int32), .int (0 : Int32), .int (0 : Int32), .int (0 : Int32), .int (0 : Int32)])), (q8, aB cy 200 (fun _ => 0))] H := hP
  have hD : va_D A [(h, .inr (9, [.ref q8, .int (0 : Int32), .int (0 : Int32), .int (0 : Int32), .int (0 : Int32), .int (0 : Int32)])), (q8, aB cy 200 (fun _ => 0))] := hD
  refine lv_aload_n hx hb dX9_init_28 rfl (lv_at hl 0 rfl) ?_
  refine lv_iconst (v := 0) hx hb dX9_init_29 (by decide) ?_
  refine va_put (D := D) (ci := 9) (v := .int (0 : Int32)) (ty := .int) (C := RX9) (T := TX9) (N := 6) hx hb hts ui_X9 tyX9 tyX9_ok nmX9 hown hK hP hD hS 0 rfl rfl 4 (by decide) (hts _ fl_X9_23) (fun _ h9 => h9) rfl (by decide +kernel) rfl rfl (Nat.le_of_ble_eq_true rfl) dX9_init_30 (fun H locs hP hD hS => ?_)
  have hP : va_P D vwCl [(h, .inr (9, [.ref q8, .int (0 : Int32), .int (0 : Int32), .int (0 : Int32), .int (0 : Int32), .int (0 : Int32)])), (q8, aB cy 200 (fun _ => 0))] H := hP
  have hD : va_D A [(h, .inr (9, [.ref q8, .int (0 : Int32), .int (0 : Int32), .int (0 : Int32), .int (0 : Int32), .int (0 : Int32)])), (q8, aB cy 200 (fun _ => 0))] := hD
  refine lv_aload_n hx hb dX9_init_33 rfl (lv_at hl 0 rfl) ?_
  refine lv_iconst (v := 0) hx hb dX9_init_34 (by decide) ?_
  refine va_put (D := D) (ci := 9) (v := .int (0 : Int32)) (ty := .int) (C := RX9) (T := TX9) (N := 6) hx hb hts ui_X9 tyX9 tyX9_ok nmX9 hown hK hP hD hS 0 rfl rfl 5 (by decide) (hts _ fl_X9_26) (fun _ h9 => h9) rfl (by decide +kernel) rfl rfl (Nat.le_of_ble_eq_true rfl) dX9_init_35 (fun H locs hP hD hS => ?_)
  have hP : va_P D vwCl [(h, .inr (9, [.ref q8, .int (0 : Int32), .int (0 : Int32), .int (0 : Int32), .int (0 : Int32), .int (0 : Int32)])), (q8, aB cy 200 (fun _ => 0))] H := hP
  have hD : va_D A [(h, .inr (9, [.ref q8, .int (0 : Int32), .int (0 : Int32), .int (0 : Int32), .int (0 : Int32), .int (0 : Int32)])), (q8, aB cy 200 (fun _ => 0))] := hD
  obtain rfl := Option.some.inj hf
  exact ret_n (fun k => ([q8] : List Nat).getD k 0) C (hP.sub [0, 1] rfl) (hD.sub [0, 1] (by decide) rfl) hS dX9_init_38
theorem hd_X9_init : yX9_init.cls ≠ "java/lang/invoke/MethodHandle" ∧ yX9_init.cls ≠ "java/lang/invoke/VarHandle" ∧ (parseMethodDescriptor yX9_init.desc).map (fun d => d.parameters.length) = some 0 := by decide +kernel
def f_X4_init : Option (Int32 × Int32 × Int32 × Int32 × Int32) :=
  some ((0 : Int32), (0 : Int32), (0 : Int32), (0 : Int32), (0 : Int32))
set_option maxHeartbeats 4000000 in
set_option maxRecDepth 100000 in
theorem c_X4_init (l : Launch) (D : va_G) (cy : Nat → ClassId) (sz : Nat) (h r1 r2 : Nat)  {z : Int32 × Int32 × Int32 × Int32 × Int32} (hf : f_X4_init = some z) : Met l yX4_init (.code yX4_init cX4_init 3 none :: tb) ({ frames := 1, cells := 0, slots := 0, locals := 12 } : Room) (fun v U => kp D cy sz [.ref h, .ref r1, .ref r2] [(h, .inr (4, [.null, .null, .int (0 : Int32), .int (0 : Int32), .int (0 : Int32), .int (0 : Int32), .int (0 : Int32)]))] v U ∧ True) (kqn D cy (fun u => [(h, .inr (4, [.ref r1, .ref r2, .int z.1, .int z.2.1, .int z.2.2.1, .int z.2.2.2.1, .int z.2.2.2.2]))]) (va_A [(h, .inr (4, [.null, .null, .int (0 : Int32), .int (0 : Int32), .int (0 : Int32), .int (0 : Int32), .int (0 : Int32)]))] sz)) 0 0 (va_A [(h, .inr (4, [.null, .null, .int (0 : Int32), .int (0 : Int32), .int (0 : Int32), .int (0 : Int32), .int (0 : Int32)]))] sz) := by
  refine met_ofN (Px := fun U => True) (fun A => kqn D cy (fun u => [(h, .inr (4, [.ref r1, .ref r2, .int z.1, .int z.2.1, .int z.2.2.1, .int z.2.2.2.1, .int z.2.2.2.2]))]) A) (by decide +kernel) (Nat.le_of_ble_eq_true rfl) (fun p e s m below meth c A ls C hin ho hP hD hS hl => ?_)
  obtain ⟨hx, hb, hr, hml, hown, hts, hlk, hK, hA, hN⟩ := id C
  unfold f_X4_init at hf
  have hl : lv_has ls 3 [(0, .ref h), (1, .ref r1), (2, .ref r2)] := hl
  refine lv_aload_n hx hb dX4_init_0 rfl (lv_at hl 0 rfl) ?_
  refine W.objInit hx hb hown (hts _ ml_X4_1) (hts _ im_Obj_init) (hts _ cd_Obj_init) rfl (by rw [hml]; exact hl.1) rfl dX4_init_1 (Nat.le_of_ble_eq_true rfl) (Nat.le_of_ble_eq_true rfl) ?_
  refine W.eq (g2 := F0 m 4 ls []) rfl ?_
  refine lv_aload_n hx hb dX4_init_4 rfl (lv_at hl 0 rfl) ?_
  refine lv_iconst (v := 0) hx hb dX4_init_5 (by decide) ?_
  refine va_put (D := D) (ci := 4) (v := .int (0 : Int32)) (ty := .int) (C := RX4) (T := TX4) (N := 7) hx hb hts ui_X4 tyX4 tyX4_ok nmX4 hown hK hP hD hS 0 rfl rfl 2 (by decide) (hts _ fl_X4_9) (fun _ h9 => h9) rfl (by decide +kernel) rfl rfl (Nat.le_of_ble_eq_true rfl) dX4_init_6 (fun H locs hP hD hS => ?_)
  have hP : va_P D vwCl [(h, .inr (4, [.null, .null, .int (0 : Int32), .int (0 : Int32), .int (0 : Int32), .int (0 : Int32), .int (0 : Int32)]))] H := hP
  have hD : va_D A [(h, .inr (4, [.null, .null, .int (0 : Int32), .int (0 : Int32), .int (0 : Int32), .int (0 : Int32), .int (0 : Int32)]))] := hD
  refine lv_aload_n hx hb dX4_init_9 rfl (lv_at hl 0 rfl) ?_
  refine lv_iconst (v := 0) hx hb dX4_init_10 (by decide) ?_
  refine va_put (D := D) (ci := 4) (v := .int (0 : Int32)) (ty := .int) (C := RX4) (T := TX4) (N := 7) hx hb hts ui_X4 tyX4 tyX4_ok nmX4 hown hK hP hD hS 0 rfl rfl 3 (by decide) (hts _ fl_X4_13) (fun _ h9 => h9) rfl (by decide +kernel) rfl rfl (Nat.le_of_ble_eq_true rfl) dX4_init_11 (fun H locs hP hD hS => ?_)
  have hP : va_P D vwCl [(h, .inr (4, [.null, .null, .int (0 : Int32), .int (0 : Int32), .int (0 : Int32), .int (0 : Int32), .int (0 : Int32)]))] H := hP
  have hD : va_D A [(h, .inr (4, [.null, .null, .int (0 : Int32), .int (0 : Int32), .int (0 : Int32), .int (0 : Int32), .int (0 : Int32)]))] := hD
  refine lv_aload_n hx hb dX4_init_14 rfl (lv_at hl 0 rfl) ?_
  refine lv_iconst (v := 0) hx hb dX4_init_15 (by decide) ?_
  refine va_put (D := D) (ci := 4) (v := .int (0 : Int32)) (ty := .int) (C := RX4) (T := TX4) (N := 7) hx hb hts ui_X4 tyX4 tyX4_ok nmX4 hown hK hP hD hS 0 rfl rfl 4 (by decide) (hts _ fl_X4_16) (fun _ h9 => h9) rfl (by decide +kernel) rfl rfl (Nat.le_of_ble_eq_true rfl) dX4_init_16 (fun H locs hP hD hS => ?_)
  have hP : va_P D vwCl [(h, .inr (4, [.null, .null, .int (0 : Int32), .int (0 : Int32), .int (0 : Int32), .int (0 : Int32), .int (0 : Int32)]))] H := hP
  have hD : va_D A [(h, .inr (4, [.null, .null, .int (0 : Int32), .int (0 : Int32), .int (0 : Int32), .int (0 : Int32), .int (0 : Int32)]))] := hD
  refine lv_aload_n hx hb dX4_init_19 rfl (lv_at hl 0 rfl) ?_
  refine lv_iconst (v := 0) hx hb dX4_init_20 (by decide) ?_
  refine va_put (D := D) (ci := 4) (v := .int (0 : Int32)) (ty := .int) (C := RX4) (T := TX4) (N := 7) hx hb hts ui_X4 tyX4 tyX4_ok nmX4 hown hK hP hD hS 0 rfl rfl 5 (by decide) (hts _ fl_X4_19) (fun _ h9 => h9) rfl (by decide +kernel) rfl rfl (Nat.le_of_ble_eq_true rfl) dX4_init_21 (fun H locs hP hD hS => ?_)
  have hP : va_P D vwCl [(h, .inr (4, [.null, .null, .int (0 : Int32), .int (0 : Int32), .int (0 : Int32), .int (0 : Int32), .int (0 : Int32)]))] H := hP
  have hD : va_D A [(h, .inr (4, [.null, .null, .int (0 : Int32), .int (0 : Int32), .int (0 : Int32), .int (0 : Int32), .int (0 : Int32)]))] := hD
  refine lv_aload_n hx hb dX4_init_24 rfl (lv_at hl 0 rfl) ?_
  refine lv_iconst (v := 0) hx hb dX4_init_25 (by decide) ?_
  refine va_put (D := D) (ci := 4) (v := .int (0 : Int32)) (ty := .int) (C := RX4) (T := TX4) (N := 7) hx hb hts ui_X4 tyX4 tyX4_ok nmX4 hown hK hP hD hS 0 rfl rfl 6 (by decide) (hts _ fl_X4_22) (fun _ h9 => h9) rfl (by decide +kernel) rfl rfl (Nat.le_of_ble_eq_true rfl) dX4_init_26 (fun H locs hP hD hS => ?_)
  have hP : va_P D vwCl [(h, .inr (4, [.null, .null, .int (0 : Int32), .int (0 : Int32), .int (0 : Int32), .int (0 : Int32), .int (0 : Int32)]))] H := hP
  have hD : va_D A [(h, .inr (4, [.null, .null, .int (0 : Int32), .int (0 : Int32), .int (0 : Int32), .int (0 : Int32), .int (0 : Int32)]))] := hD
  refine lv_aload_n hx hb dX4_init_29 rfl (lv_at hl 0 rfl) ?_
  refine lv_aload_n hx hb dX4_init_30 rfl (lv_at hl 1 rfl) ?_
  refine va_putF (D := D) (ci := 4) (v := .ref r1) (ty := .object "VoltNumbers$Tokens") (C := RX4) (T := TX4) (N := 7) hx hb hts ui_X4 tyX4 tyX4_ok nmX4 hown hK hP hD hS 0 rfl rfl 0 (by decide) (hts _ fl_X4_25) (fun _ h9 => h9) rfl hin rfl (by decide +kernel) rfl rfl (Nat.le_of_ble_eq_true rfl) dX4_init_31 (fun H locs hP hD hS => ?_)
  have hP : va_P D vwCl [(h, .inr (4, [.ref r1, .null, .int (0 : Int32), .int (0 : Int32), .int (0 : Int32), .int (0 : Int32), .int (0 : Int32)]))] H := hP
  have hD : va_D A [(h, .inr (4, [.ref r1, .null, .int (0 : Int32), .int (0 : Int32), .int (0 : Int32), .int (0 : Int32), .int (0 : Int32)]))] := hD
  refine lv_aload_n hx hb dX4_init_34 rfl (lv_at hl 0 rfl) ?_
  refine lv_aload_n hx hb dX4_init_35 rfl (lv_at hl 2 rfl) ?_
  refine va_putF (D := D) (ci := 4) (v := .ref r2) (ty := .object "VoltNumbers$Rules") (C := RX4) (T := TX4) (N := 7) hx hb hts ui_X4 tyX4 tyX4_ok nmX4 hown hK hP hD hS 0 rfl rfl 1 (by decide) (hts _ fl_X4_29) (fun _ h9 => h9) rfl hin rfl (by decide +kernel) rfl rfl (Nat.le_of_ble_eq_true rfl) dX4_init_36 (fun H locs hP hD hS => ?_)
  have hP : va_P D vwCl [(h, .inr (4, [.ref r1, .ref r2, .int (0 : Int32), .int (0 : Int32), .int (0 : Int32), .int (0 : Int32), .int (0 : Int32)]))] H := hP
  have hD : va_D A [(h, .inr (4, [.ref r1, .ref r2, .int (0 : Int32), .int (0 : Int32), .int (0 : Int32), .int (0 : Int32), .int (0 : Int32)]))] := hD
  obtain rfl := Option.some.inj hf
  exact ret_n (fun k => ([] : List Nat).getD k 0) C (hP.sub [0] rfl) (hD.sub [0] (by decide) rfl) hS dX4_init_39
theorem hd_X4_init : yX4_init.cls ≠ "java/lang/invoke/MethodHandle" ∧ yX4_init.cls ≠ "java/lang/invoke/VarHandle" ∧ (parseMethodDescriptor yX4_init.desc).map (fun d => d.parameters.length) = some 2 := by decide +kernel
def f_X7_init : Option (Int32 × Int32) :=
  some ((0 : Int32), (-1 : Int32))
set_option maxHeartbeats 4000000 in
set_option maxRecDepth 100000 in
theorem c_X7_init (l : Launch) (D : va_G) (cy : Nat → ClassId) (sz : Nat) (h : Nat)  {z : Int32 × Int32} (hf : f_X7_init = some z) : Met l yX7_init (.code yX7_init cX7_init 1 none :: tb) ({ frames := 1, cells := 0, slots := 0, locals := 12 } : Room) (fun v U => kp D cy sz [.ref h] [(h, .inr (7, [.int (0 : Int32), .int (0 : Int32)]))] v U ∧ True) (kqn D cy (fun u => [(h, .inr (7, [.int z.1, .int z.2]))]) (va_A [(h, .inr (7, [.int (0 : Int32), .int (0 : Int32)]))] sz)) 0 0 (va_A [(h, .inr (7, [.int (0 : Int32), .int (0 : Int32)]))] sz) := by
  refine met_ofN (Px := fun U => True) (fun A => kqn D cy (fun u => [(h, .inr (7, [.int z.1, .int z.2]))]) A) (by decide +kernel) (Nat.le_of_ble_eq_true rfl) (fun p e s m below meth c A ls C hin ho hP hD hS hl => ?_)
  obtain ⟨hx, hb, hr, hml, hown, hts, hlk, hK, hA, hN⟩ := id C
  unfold f_X7_init at hf
  have hl : lv_has ls 1 [(0, .ref h)] := hl
  refine lv_aload_n hx hb dX7_init_0 rfl (lv_at hl 0 rfl) ?_
  refine W.objInit hx hb hown (hts _ ml_X7_1) (hts _ im_Obj_init) (hts _ cd_Obj_init) rfl (by rw [hml]; exact hl.1) rfl dX7_init_1 (Nat.le_of_ble_eq_true rfl) (Nat.le_of_ble_eq_true rfl) ?_
  refine W.eq (g2 := F0 m 4 ls []) rfl ?_
  refine lv_aload_n hx hb dX7_init_4 rfl (lv_at hl 0 rfl) ?_
  refine lv_iconst (v := 0) hx hb dX7_init_5 (by decide) ?_
  refine va_put (D := D) (ci := 7) (v := .int (0 : Int32)) (ty := .int) (C := RX7) (T := TX7) (N := 2) hx hb hts ui_X7 tyX7 tyX7_ok nmX7 hown hK hP hD hS 0 rfl rfl 0 (by decide) (hts _ fl_X7_7) (fun _ h9 => h9) rfl (by decide +kernel) rfl rfl (Nat.le_of_ble_eq_true rfl) dX7_init_6 (fun H locs hP hD hS => ?_)
  have hP : va_P D vwCl [(h, .inr (7, [.int (0 : Int32), .int (0 : Int32)]))] H := hP
  have hD : va_D A [(h, .inr (7, [.int (0 : Int32), .int (0 : Int32)]))] := hD
  refine lv_aload_n hx hb dX7_init_9 rfl (lv_at hl 0 rfl) ?_
  refine lv_iconst (v := -1) hx hb dX7_init_10 (by decide) ?_
  refine va_put (D := D) (ci := 7) (v := .int (-1 : Int32)) (ty := .int) (C := RX7) (T := TX7) (N := 2) hx hb hts ui_X7 tyX7 tyX7_ok nmX7 hown hK hP hD hS 0 rfl rfl 1 (by decide) (hts _ fl_X7_13) (fun _ h9 => h9) rfl (by decide +kernel) rfl rfl (Nat.le_of_ble_eq_true rfl) dX7_init_11 (fun H locs hP hD hS => ?_)
  have hP : va_P D vwCl [(h, .inr (7, [.int (0 : Int32), .int (-1 : Int32)]))] H := hP
  have hD : va_D A [(h, .inr (7, [.int (0 : Int32), .int (-1 : Int32)]))] := hD
  obtain rfl := Option.some.inj hf
  exact ret_n (fun k => ([] : List Nat).getD k 0) C (hP.sub [0] rfl) (hD.sub [0] (by decide) rfl) hS dX7_init_14
theorem hd_X7_init : yX7_init.cls ≠ "java/lang/invoke/MethodHandle" ∧ yX7_init.cls ≠ "java/lang/invoke/VarHandle" ∧ (parseMethodDescriptor yX7_init.desc).map (fun d => d.parameters.length) = some 0 := by decide +kernel
def f_X8_init (m_r1_bits : Int32) (m_r1_unit : Int32) (m_r1_offset : Int32) (m_r1_top : Int32) (m_r1_misses : Nat → Int32) : Option ((Nat → Int32) × Int32 × Int32) :=
  zb (f_X7_init) fun z18_10 =>
  zb (f_X8_reckonOuts m_r1_bits m_r1_unit m_r1_offset m_r1_top m_r1_misses (fun _ => (0 : Int32))) fun z30_16 =>
  some (z30_16, z18_10.1, z18_10.2)
set_option maxHeartbeats 4000000 in
set_option maxRecDepth 100000 in
theorem c_X8_init (l : Launch) (D : va_G) (cy : Nat → ClassId) (sz : Nat) (h r1 q_r1_misses q_r1_resistors : Nat) (m_r1_bits : Int32) (m_r1_unit : Int32) (m_r1_offset : Int32) (m_r1_lean : Int32) (m_r1_ref : Int32) (m_r1_top : Int32) (m_r1_misses : Nat → Int32) {z : (Nat → Int32) × Int32 × Int32} (hf : f_X8_init m_r1_bits m_r1_unit m_r1_offset m_r1_top m_r1_misses = some z) : Met l yX8_init (.code yX8_init cX8_init 2 none :: tb) ({ frames := 5, cells := 2, slots := 258, locals := 109 } : Room) (fun v U => kp D cy sz [.ref h, .ref r1] [(h, .inr (8, [.null, .null, .null])), (r1, .inr (5, [.int m_r1_bits, .int m_r1_unit, .int m_r1_offset, .int m_r1_lean, .int m_r1_ref, .int m_r1_top, .ref q_r1_misses, .ref q_r1_resistors])), (q_r1_misses, aI cy 9 m_r1_misses)] v U ∧ True) (kqn D cy (fun u => [(h, .inr (8, [.ref r1, .ref (u 0), .ref (u 1)])), (r1, .inr (5, [.int m_r1_bits, .int m_r1_unit, .int m_r1_offset, .int m_r1_lean, .int m_r1_ref, .int m_r1_top, .ref q_r1_misses, .ref q_r1_resistors])), (q_r1_misses, aI cy 9 m_r1_misses), ((u 0), aI cy 256 z.1), ((u 1), .inr (7, [.int z.2.1, .int z.2.2]))]) (va_A [(h, .inr (8, [.null, .null, .null])), (r1, .inr (5, [.int m_r1_bits, .int m_r1_unit, .int m_r1_offset, .int m_r1_lean, .int m_r1_ref, .int m_r1_top, .ref q_r1_misses, .ref q_r1_resistors])), (q_r1_misses, aI cy 9 m_r1_misses)] sz)) 2 258 (va_A [(h, .inr (8, [.null, .null, .null])), (r1, .inr (5, [.int m_r1_bits, .int m_r1_unit, .int m_r1_offset, .int m_r1_lean, .int m_r1_ref, .int m_r1_top, .ref q_r1_misses, .ref q_r1_resistors])), (q_r1_misses, aI cy 9 m_r1_misses)] sz) := by
  refine met_ofN (Px := fun U => True) (fun A => kqn D cy (fun u => [(h, .inr (8, [.ref r1, .ref (u 0), .ref (u 1)])), (r1, .inr (5, [.int m_r1_bits, .int m_r1_unit, .int m_r1_offset, .int m_r1_lean, .int m_r1_ref, .int m_r1_top, .ref q_r1_misses, .ref q_r1_resistors])), (q_r1_misses, aI cy 9 m_r1_misses), ((u 0), aI cy 256 z.1), ((u 1), .inr (7, [.int z.2.1, .int z.2.2]))]) A) (by decide +kernel) (Nat.le_of_ble_eq_true rfl) (fun p e s m below meth c A ls C hin ho hP hD hS hl => ?_)
  obtain ⟨hx, hb, hr, hml, hown, hts, hlk, hK, hA, hN⟩ := id C
  unfold f_X8_init at hf
  have hl : lv_has ls 2 [(0, .ref h), (1, .ref r1)] := hl
  refine lv_aload_n hx hb dX8_init_0 rfl (lv_at hl 0 rfl) ?_
  refine W.objInit hx hb hown (hts _ ml_X8_3) (hts _ im_Obj_init) (hts _ cd_Obj_init) rfl (by rw [hml]; exact hl.1) rfl dX8_init_1 (Nat.le_of_ble_eq_true rfl) (Nat.le_of_ble_eq_true rfl) ?_
  refine W.eq (g2 := F0 m 4 ls []) rfl ?_
  refine lv_aload_n hx hb dX8_init_4 rfl (lv_at hl 0 rfl) ?_
  refine lv_sipush (v := 256) hx hb dX8_init_5 (by decide) ?_
  refine newI C hP hD hS (by decide) rfl (Nat.le_of_ble_eq_true rfl) (Nat.le_of_ble_eq_true rfl) (Nat.le_of_ble_eq_true rfl) dX8_init_8 (fun q8 H hP hD hS => ?_)
  have hP : va_P D vwCl [(h, .inr (8, [.null, .null, .null])), (r1, .inr (5, [.int m_r1_bits, .int m_r1_unit, .int m_r1_offset, .int m_r1_lean, .int m_r1_ref, .int m_r1_top, .ref q_r1_misses, .ref q_r1_resistors])), (q_r1_misses, aI cy 9 m_r1_misses), (q8, aI cy 256 (fun _ => 0))] H := hP
  have hD : va_D A [(h, .inr (8, [.null, .null, .null])), (r1, .inr (5, [.int m_r1_bits, .int m_r1_unit, .int m_r1_offset, .int m_r1_lean, .int m_r1_ref, .int m_r1_top, .ref q_r1_misses, .ref q_r1_resistors])), (q_r1_misses, aI cy 9 m_r1_misses), (q8, aI cy 256 (fun _ => 0))] := hD
  refine W.widen (k := 1) (n := 256) (Nat.le_refl _) (Nat.le_refl _) ?_
  refine va_putF (D := D) (ci := 8) (v := .ref q8) (ty := (.array .int)) (C := RX8) (T := TX8) (N := 3) hx hb hts ui_X8 tyX8 tyX8_ok nmX8 hown hK hP hD hS 0 rfl rfl 1 (by decide) (hts _ fl_X8_11) (fun _ h9 => h9) rfl hin rfl (by decide +kernel) rfl rfl (Nat.le_of_ble_eq_true rfl) dX8_init_10 (fun H locs hP hD hS => ?_)
  have hP : va_P D vwCl [(h, .inr (8, [.null, .ref q8, .null])), (r1, .inr (5, [.int m_r1_bits, .int m_r1_unit, .int m_r1_offset, .int m_r1_lean, .int m_r1_ref, .int m_r1_top, .ref q_r1_misses, .ref q_r1_resistors])), (q_r1_misses, aI cy 9 m_r1_misses), (q8, aI cy 256 (fun _ => 0))] H := hP
  have hD : va_D A [(h, .inr (8, [.null, .ref q8, .null])), (r1, .inr (5, [.int m_r1_bits, .int m_r1_unit, .int m_r1_offset, .int m_r1_lean, .int m_r1_ref, .int m_r1_top, .ref q_r1_misses, .ref q_r1_resistors])), (q_r1_misses, aI cy 9 m_r1_misses), (q8, aI cy 256 (fun _ => 0))] := hD
  refine lv_aload_n hx hb dX8_init_13 rfl (lv_at hl 0 rfl) ?_
  refine va_new (ci := 7) (fs := [.int (0 : Int32), .int (0 : Int32)]) (C := RX7) (T := TX7) (N := 2) hx hb hts ui_X7 tyX7 tyX7_ok hown (hts _ cl_X8_15) (hts _ in_X7) (hts _ ii_X7) hK hP hD hS hA rfl (fun j hj => by rcases (show j = 0 ∨ j = 1 by omega) with rfl | rfl <;> rfl) (Nat.le_of_ble_eq_true rfl) (Nat.le_of_ble_eq_true rfl) dX8_init_14 (fun q14_8 H hP hD hS => ?_)
  have hP : va_P D vwCl [(h, .inr (8, [.null, .ref q8, .null])), (r1, .inr (5, [.int m_r1_bits, .int m_r1_unit, .int m_r1_offset, .int m_r1_lean, .int m_r1_ref, .int m_r1_top, .ref q_r1_misses, .ref q_r1_resistors])), (q_r1_misses, aI cy 9 m_r1_misses), (q8, aI cy 256 (fun _ => 0)), (q14_8, .inr (7, [.int (0 : Int32), .int (0 : Int32)]))] H := hP
  have hD : va_D A [(h, .inr (8, [.null, .ref q8, .null])), (r1, .inr (5, [.int m_r1_bits, .int m_r1_unit, .int m_r1_offset, .int m_r1_lean, .int m_r1_ref, .int m_r1_top, .ref q_r1_misses, .ref q_r1_resistors])), (q_r1_misses, aI cy 9 m_r1_misses), (q8, aI cy 256 (fun _ => 0)), (q14_8, .inr (7, [.int (0 : Int32), .int (0 : Int32)]))] := hD
  refine W.widen (k := 2) (n := 258) (Nat.le_refl _) (Nat.le_refl _) ?_
  refine lv_dup hx hb dX8_init_17 rfl ?_
  obtain ⟨z18_10, hz18_10, hf⟩ := zb_of hf
  refine goN (wr := [(h, .inr (8, [.null, .ref q8, .null])), (r1, .inr (5, [.int m_r1_bits, .int m_r1_unit, .int m_r1_offset, .int m_r1_lean, .int m_r1_ref, .int m_r1_top, .ref q_r1_misses, .ref q_r1_resistors])), (q_r1_misses, aI cy 9 m_r1_misses), (q8, aI cy 256 (fun _ => 0))]) C (runIN (n := 0) (As := []) (rest := [.ref q14_8, .ref h]) (host := "VoltNumbers") C (c_X7_init l D cy H.size q14_8 hz18_10) (by decide +kernel) im_X7_init ii_X7 cd_X7_init rfl hd_X7_init rfl rfl ⟨Nat.le_of_ble_eq_true rfl, Nat.le_of_ble_eq_true rfl⟩ (hP.sub [4] rfl) (hD.sub [4] (by decide) rfl) hS rfl hl.1 rfl (Nat.le_of_ble_eq_true rfl) dX8_init_18 ⟨Nat.le_of_ble_eq_true rfl, Nat.le_of_ble_eq_true rfl⟩) hP hD hS [4] [0, 1, 2, 3] rfl rfl (by decide) (by decide) (fun u18_10 H locs hP hD hS => ?_)
  have hP : va_P D vwCl [(h, .inr (8, [.null, .ref q8, .null])), (r1, .inr (5, [.int m_r1_bits, .int m_r1_unit, .int m_r1_offset, .int m_r1_lean, .int m_r1_ref, .int m_r1_top, .ref q_r1_misses, .ref q_r1_resistors])), (q_r1_misses, aI cy 9 m_r1_misses), (q8, aI cy 256 (fun _ => 0)), (q14_8, .inr (7, [.int z18_10.1, .int z18_10.2]))] H := hP
  have hD : va_D A [(h, .inr (8, [.null, .ref q8, .null])), (r1, .inr (5, [.int m_r1_bits, .int m_r1_unit, .int m_r1_offset, .int m_r1_lean, .int m_r1_ref, .int m_r1_top, .ref q_r1_misses, .ref q_r1_resistors])), (q_r1_misses, aI cy 9 m_r1_misses), (q8, aI cy 256 (fun _ => 0)), (q14_8, .inr (7, [.int z18_10.1, .int z18_10.2]))] := hD
  refine W.widen (k := 2) (n := 258) (Nat.le_refl _) (Nat.le_refl _) ?_
  refine va_putF (D := D) (ci := 8) (v := .ref q14_8) (ty := .object "VoltNumbers$Span") (C := RX8) (T := TX8) (N := 3) hx hb hts ui_X8 tyX8 tyX8_ok nmX8 hown hK hP hD hS 0 rfl rfl 2 (by decide) (hts _ fl_X8_18) (fun _ h9 => h9) rfl hin rfl (by decide +kernel) rfl rfl (Nat.le_of_ble_eq_true rfl) dX8_init_21 (fun H locs hP hD hS => ?_)
  have hP : va_P D vwCl [(h, .inr (8, [.null, .ref q8, .ref q14_8])), (r1, .inr (5, [.int m_r1_bits, .int m_r1_unit, .int m_r1_offset, .int m_r1_lean, .int m_r1_ref, .int m_r1_top, .ref q_r1_misses, .ref q_r1_resistors])), (q_r1_misses, aI cy 9 m_r1_misses), (q8, aI cy 256 (fun _ => 0)), (q14_8, .inr (7, [.int z18_10.1, .int z18_10.2]))] H := hP
  have hD : va_D A [(h, .inr (8, [.null, .ref q8, .ref q14_8])), (r1, .inr (5, [.int m_r1_bits, .int m_r1_unit, .int m_r1_offset, .int m_r1_lean, .int m_r1_ref, .int m_r1_top, .ref q_r1_misses, .ref q_r1_resistors])), (q_r1_misses, aI cy 9 m_r1_misses), (q8, aI cy 256 (fun _ => 0)), (q14_8, .inr (7, [.int z18_10.1, .int z18_10.2]))] := hD
  refine lv_aload_n hx hb dX8_init_24 rfl (lv_at hl 0 rfl) ?_
  refine lv_aload_n hx hb dX8_init_25 rfl (lv_at hl 1 rfl) ?_
  refine va_putF (D := D) (ci := 8) (v := .ref r1) (ty := .object "VoltNumbers$Rules") (C := RX8) (T := TX8) (N := 3) hx hb hts ui_X8 tyX8 tyX8_ok nmX8 hown hK hP hD hS 0 rfl rfl 0 (by decide) (hts _ fl_X8_22) (fun _ h9 => h9) rfl hin rfl (by decide +kernel) rfl rfl (Nat.le_of_ble_eq_true rfl) dX8_init_26 (fun H locs hP hD hS => ?_)
  have hP : va_P D vwCl [(h, .inr (8, [.ref r1, .ref q8, .ref q14_8])), (r1, .inr (5, [.int m_r1_bits, .int m_r1_unit, .int m_r1_offset, .int m_r1_lean, .int m_r1_ref, .int m_r1_top, .ref q_r1_misses, .ref q_r1_resistors])), (q_r1_misses, aI cy 9 m_r1_misses), (q8, aI cy 256 (fun _ => 0)), (q14_8, .inr (7, [.int z18_10.1, .int z18_10.2]))] H := hP
  have hD : va_D A [(h, .inr (8, [.ref r1, .ref q8, .ref q14_8])), (r1, .inr (5, [.int m_r1_bits, .int m_r1_unit, .int m_r1_offset, .int m_r1_lean, .int m_r1_ref, .int m_r1_top, .ref q_r1_misses, .ref q_r1_resistors])), (q_r1_misses, aI cy 9 m_r1_misses), (q8, aI cy 256 (fun _ => 0)), (q14_8, .inr (7, [.int z18_10.1, .int z18_10.2]))] := hD
  refine lv_aload_n hx hb dX8_init_29 rfl (lv_at hl 0 rfl) ?_
  obtain ⟨z30_16, hz30_16, hf⟩ := zb_of hf
  refine goVc (wr := [(q14_8, .inr (7, [.int z18_10.1, .int z18_10.2]))]) (ws' := [(h, .inr (8, [.ref r1, .ref q8, .ref q14_8])), (r1, .inr (5, [.int m_r1_bits, .int m_r1_unit, .int m_r1_offset, .int m_r1_lean, .int m_r1_ref, .int m_r1_top, .ref q_r1_misses, .ref q_r1_resistors])), (q_r1_misses, aI cy 9 m_r1_misses), (q8, aI cy 256 z30_16), (q14_8, .inr (7, [.int z18_10.1, .int z18_10.2]))]) C (runVc (n := 0) (As := []) (rest := []) C (c_X8_reckonOuts l D cy H.size h r1 q8 q14_8 q_r1_misses q_r1_resistors m_r1_bits m_r1_unit m_r1_offset m_r1_lean m_r1_ref m_r1_top m_r1_misses (fun _ => (0 : Int32)) hz30_16) ml_X8_26 im_X8_reckonOuts se_X8_reckonOuts ii_X8 cd_X8_reckonOuts hd_X8_reckonOuts rfl rfl ⟨Nat.le_of_ble_eq_true rfl, Nat.le_of_ble_eq_true rfl⟩ (hP.sub [0, 1, 2, 3] rfl) (hD.sub [0, 1, 2, 3] (by decide) rfl) hS rfl rfl rfl hl.1 rfl (Nat.le_of_ble_eq_true rfl) dX8_init_30 ⟨Nat.le_of_ble_eq_true rfl, Nat.le_of_ble_eq_true rfl⟩) hP hD hS [0, 1, 2, 3] [4] [1, 2, 3, 4, 0] rfl rfl (by decide) (by decide) rfl (by decide) (fun H locs hP hD hS => ?_)
  obtain rfl := Option.some.inj hf
  exact ret_n (fun k => ([q8, q14_8] : List Nat).getD k 0) C (hP.sub [0, 1, 2, 3, 4] rfl) (hD.sub [0, 1, 2, 3, 4] (by decide) rfl) hS dX8_init_33
theorem hd_X8_init : yX8_init.cls ≠ "java/lang/invoke/MethodHandle" ∧ yX8_init.cls ≠ "java/lang/invoke/VarHandle" ∧ (parseMethodDescriptor yX8_init.desc).map (fun d => d.parameters.length) = some 1 := by decide +kernel
def f_X1_init : Option (Int64 × Int64) :=
  some ((0 : Int64), (1 : Int64))
set_option maxHeartbeats 4000000 in
set_option maxRecDepth 100000 in
theorem c_X1_init (l : Launch) (D : va_G) (cy : Nat → ClassId) (sz : Nat) (h : Nat)  {z : Int64 × Int64} (hf : f_X1_init = some z) : Met l yX1_init (.code yX1_init cX1_init 1 none :: tb) ({ frames := 1, cells := 0, slots := 0, locals := 12 } : Room) (fun v U => kp D cy sz [.ref h] [(h, .inr (1, [.long (0 : Int64), .long (0 : Int64)]))] v U ∧ True) (kqn D cy (fun u => [(h, .inr (1, [.long z.1, .long z.2]))]) (va_A [(h, .inr (1, [.long (0 : Int64), .long (0 : Int64)]))] sz)) 0 0 (va_A [(h, .inr (1, [.long (0 : Int64), .long (0 : Int64)]))] sz) := by
  refine met_ofN (Px := fun U => True) (fun A => kqn D cy (fun u => [(h, .inr (1, [.long z.1, .long z.2]))]) A) (by decide +kernel) (Nat.le_of_ble_eq_true rfl) (fun p e s m below meth c A ls C hin ho hP hD hS hl => ?_)
  obtain ⟨hx, hb, hr, hml, hown, hts, hlk, hK, hA, hN⟩ := id C
  unfold f_X1_init at hf
  have hl : lv_has ls 1 [(0, .ref h)] := hl
  refine lv_aload_n hx hb dX1_init_0 rfl (lv_at hl 0 rfl) ?_
  refine W.objInit hx hb hown (hts _ ml_X1_1) (hts _ im_Obj_init) (hts _ cd_Obj_init) rfl (by rw [hml]; exact hl.1) rfl dX1_init_1 (Nat.le_of_ble_eq_true rfl) (Nat.le_of_ble_eq_true rfl) ?_
  refine W.eq (g2 := F0 m 4 ls []) rfl ?_
  refine lv_aload_n hx hb dX1_init_4 rfl (lv_at hl 0 rfl) ?_
  refine lv_lconst (v := 0) hx hb dX1_init_5 (by decide) ?_
  refine va_put (D := D) (ci := 1) (v := .long (0 : Int64)) (ty := .long) (C := RX1) (T := TX1) (N := 2) hx hb hts ui_X1 tyX1 tyX1_ok nmX1 hown hK hP hD hS 0 rfl rfl 0 (by decide) (hts _ fl_X1_7) (fun _ h9 => h9) rfl (by decide +kernel) rfl rfl (Nat.le_of_ble_eq_true rfl) dX1_init_6 (fun H locs hP hD hS => ?_)
  have hP : va_P D vwCl [(h, .inr (1, [.long (0 : Int64), .long (0 : Int64)]))] H := hP
  have hD : va_D A [(h, .inr (1, [.long (0 : Int64), .long (0 : Int64)]))] := hD
  refine lv_aload_n hx hb dX1_init_9 rfl (lv_at hl 0 rfl) ?_
  refine lv_lconst (v := 1) hx hb dX1_init_10 (by decide) ?_
  refine va_put (D := D) (ci := 1) (v := .long (1 : Int64)) (ty := .long) (C := RX1) (T := TX1) (N := 2) hx hb hts ui_X1 tyX1 tyX1_ok nmX1 hown hK hP hD hS 0 rfl rfl 1 (by decide) (hts _ fl_X1_13) (fun _ h9 => h9) rfl (by decide +kernel) rfl rfl (Nat.le_of_ble_eq_true rfl) dX1_init_11 (fun H locs hP hD hS => ?_)
  have hP : va_P D vwCl [(h, .inr (1, [.long (0 : Int64), .long (1 : Int64)]))] H := hP
  have hD : va_D A [(h, .inr (1, [.long (0 : Int64), .long (1 : Int64)]))] := hD
  obtain rfl := Option.some.inj hf
  exact ret_n (fun k => ([] : List Nat).getD k 0) C (hP.sub [0] rfl) (hD.sub [0] (by decide) rfl) hS dX1_init_14
theorem hd_X1_init : yX1_init.cls ≠ "java/lang/invoke/MethodHandle" ∧ yX1_init.cls ≠ "java/lang/invoke/VarHandle" ∧ (parseMethodDescriptor yX1_init.desc).map (fun d => d.parameters.length) = some 0 := by decide +kernel
def f_X0_init : Option (Int32 × (Nat → Int32) × (Nat → Int32)) :=
  zb (f_J7_fill_53178 (-4 : Int32) (fun _ => (0 : Int32)) 16) fun z36_20 =>
  some ((0 : Int32), z36_20, (fun _ => (0 : Int32)))
set_option maxHeartbeats 4000000 in
set_option maxRecDepth 100000 in
theorem c_X0_init (l : Launch) (D : va_G) (cy : Nat → ClassId) (sz : Nat) (h r1 : Nat)  {z : Int32 × (Nat → Int32) × (Nat → Int32)} (hf : f_X0_init = some z) : Met l yX0_init (.code yX0_init cX0_init 2 none :: tb) ({ frames := 1, cells := 2, slots := 33, locals := 23 } : Room) (fun v U => kp D cy sz [.ref h, .ref r1] [(h, .inr (0, [.null, .null, .null, .int (0 : Int32)]))] v U ∧ True) (kqn D cy (fun u => [(h, .inr (0, [.ref r1, .ref (u 0), .ref (u 1), .int z.1])), ((u 0), aI cy 16 z.2.1), ((u 1), aI cy 17 z.2.2)]) (va_A [(h, .inr (0, [.null, .null, .null, .int (0 : Int32)]))] sz)) 2 33 (va_A [(h, .inr (0, [.null, .null, .null, .int (0 : Int32)]))] sz) := by
  refine met_ofN (Px := fun U => True) (fun A => kqn D cy (fun u => [(h, .inr (0, [.ref r1, .ref (u 0), .ref (u 1), .int z.1])), ((u 0), aI cy 16 z.2.1), ((u 1), aI cy 17 z.2.2)]) A) (by decide +kernel) (Nat.le_of_ble_eq_true rfl) (fun p e s m below meth c A ls C hin ho hP hD hS hl => ?_)
  obtain ⟨hx, hb, hr, hml, hown, hts, hlk, hK, hA, hN⟩ := id C
  unfold f_X0_init at hf
  have hl : lv_has ls 2 [(0, .ref h), (1, .ref r1)] := hl
  refine lv_aload_n hx hb dX0_init_0 rfl (lv_at hl 0 rfl) ?_
  refine W.objInit hx hb hown (hts _ ml_X0_3) (hts _ im_Obj_init) (hts _ cd_Obj_init) rfl (by rw [hml]; exact hl.1) rfl dX0_init_1 (Nat.le_of_ble_eq_true rfl) (Nat.le_of_ble_eq_true rfl) ?_
  refine W.eq (g2 := F0 m 4 ls []) rfl ?_
  refine lv_aload_n hx hb dX0_init_4 rfl (lv_at hl 0 rfl) ?_
  refine lv_bipush (v := 16) hx hb dX0_init_5 (by decide) ?_
  refine newI C hP hD hS (by decide) rfl (Nat.le_of_ble_eq_true rfl) (Nat.le_of_ble_eq_true rfl) (Nat.le_of_ble_eq_true rfl) dX0_init_7 (fun q7 H hP hD hS => ?_)
  have hP : va_P D vwCl [(h, .inr (0, [.null, .null, .null, .int (0 : Int32)])), (q7, aI cy 16 (fun _ => 0))] H := hP
  have hD : va_D A [(h, .inr (0, [.null, .null, .null, .int (0 : Int32)])), (q7, aI cy 16 (fun _ => 0))] := hD
  refine W.widen (k := 1) (n := 16) (Nat.le_refl _) (Nat.le_refl _) ?_
  refine va_putF (D := D) (ci := 0) (v := .ref q7) (ty := (.array .int)) (C := RX0) (T := TX0) (N := 4) hx hb hts ui_X0 tyX0 tyX0_ok nmX0 hown hK hP hD hS 0 rfl rfl 1 (by decide) (hts _ fl_X0_11) (fun _ h9 => h9) rfl hin rfl (by decide +kernel) rfl rfl (Nat.le_of_ble_eq_true rfl) dX0_init_9 (fun H locs hP hD hS => ?_)
  have hP : va_P D vwCl [(h, .inr (0, [.null, .ref q7, .null, .int (0 : Int32)])), (q7, aI cy 16 (fun _ => 0))] H := hP
  have hD : va_D A [(h, .inr (0, [.null, .ref q7, .null, .int (0 : Int32)])), (q7, aI cy 16 (fun _ => 0))] := hD
  refine lv_aload_n hx hb dX0_init_12 rfl (lv_at hl 0 rfl) ?_
  refine lv_bipush (v := 17) hx hb dX0_init_13 (by decide) ?_
  refine newI C hP hD hS (by decide) rfl (Nat.le_of_ble_eq_true rfl) (Nat.le_of_ble_eq_true rfl) (Nat.le_of_ble_eq_true rfl) dX0_init_15 (fun q15 H hP hD hS => ?_)
  have hP : va_P D vwCl [(h, .inr (0, [.null, .ref q7, .null, .int (0 : Int32)])), (q7, aI cy 16 (fun _ => 0)), (q15, aI cy 17 (fun _ => 0))] H := hP
  have hD : va_D A [(h, .inr (0, [.null, .ref q7, .null, .int (0 : Int32)])), (q7, aI cy 16 (fun _ => 0)), (q15, aI cy 17 (fun _ => 0))] := hD
  refine W.widen (k := 2) (n := 33) (Nat.le_refl _) (Nat.le_refl _) ?_
  refine va_putF (D := D) (ci := 0) (v := .ref q15) (ty := (.array .int)) (C := RX0) (T := TX0) (N := 4) hx hb hts ui_X0 tyX0 tyX0_ok nmX0 hown hK hP hD hS 0 rfl rfl 2 (by decide) (hts _ fl_X0_17) (fun _ h9 => h9) rfl hin rfl (by decide +kernel) rfl rfl (Nat.le_of_ble_eq_true rfl) dX0_init_17 (fun H locs hP hD hS => ?_)
  have hP : va_P D vwCl [(h, .inr (0, [.null, .ref q7, .ref q15, .int (0 : Int32)])), (q7, aI cy 16 (fun _ => 0)), (q15, aI cy 17 (fun _ => 0))] H := hP
  have hD : va_D A [(h, .inr (0, [.null, .ref q7, .ref q15, .int (0 : Int32)])), (q7, aI cy 16 (fun _ => 0)), (q15, aI cy 17 (fun _ => 0))] := hD
  refine lv_aload_n hx hb dX0_init_20 rfl (lv_at hl 0 rfl) ?_
  refine lv_iconst (v := 0) hx hb dX0_init_21 (by decide) ?_
  refine va_put (D := D) (ci := 0) (v := .int (0 : Int32)) (ty := .int) (C := RX0) (T := TX0) (N := 4) hx hb hts ui_X0 tyX0 tyX0_ok nmX0 hown hK hP hD hS 0 rfl rfl 3 (by decide) (hts _ fl_X0_20) (fun _ h9 => h9) rfl (by decide +kernel) rfl rfl (Nat.le_of_ble_eq_true rfl) dX0_init_22 (fun H locs hP hD hS => ?_)
  have hP : va_P D vwCl [(h, .inr (0, [.null, .ref q7, .ref q15, .int (0 : Int32)])), (q7, aI cy 16 (fun _ => 0)), (q15, aI cy 17 (fun _ => 0))] H := hP
  have hD : va_D A [(h, .inr (0, [.null, .ref q7, .ref q15, .int (0 : Int32)])), (q7, aI cy 16 (fun _ => 0)), (q15, aI cy 17 (fun _ => 0))] := hD
  refine lv_aload_n hx hb dX0_init_25 rfl (lv_at hl 0 rfl) ?_
  refine lv_aload_n hx hb dX0_init_26 rfl (lv_at hl 1 rfl) ?_
  refine va_putF (D := D) (ci := 0) (v := .ref r1) (ty := .object "VoltNumbers$Rules") (C := RX0) (T := TX0) (N := 4) hx hb hts ui_X0 tyX0 tyX0_ok nmX0 hown hK hP hD hS 0 rfl rfl 0 (by decide) (hts _ fl_X0_24) (fun _ h9 => h9) rfl hin rfl (by decide +kernel) rfl rfl (Nat.le_of_ble_eq_true rfl) dX0_init_27 (fun H locs hP hD hS => ?_)
  have hP : va_P D vwCl [(h, .inr (0, [.ref r1, .ref q7, .ref q15, .int (0 : Int32)])), (q7, aI cy 16 (fun _ => 0)), (q15, aI cy 17 (fun _ => 0))] H := hP
  have hD : va_D A [(h, .inr (0, [.ref r1, .ref q7, .ref q15, .int (0 : Int32)])), (q7, aI cy 16 (fun _ => 0)), (q15, aI cy 17 (fun _ => 0))] := hD
  refine lv_aload_n hx hb dX0_init_30 rfl (lv_at hl 0 rfl) ?_
  refine va_get (D := D) (ci := 0) (v := .ref q7) (C := RX0) (T := TX0) (N := 4) hx hb hts ui_X0 hown hK hP 0 rfl rfl 1 (by decide) (hts _ fl_X0_11) (fun _ h9 => h9) rfl dX0_init_31 ?_
  refine lv_bipush (v := -4) hx hb dX0_init_34 (by decide) ?_
  obtain ⟨z36_20, hz36_20, hf⟩ := zb_of hf
  refine goVc (wr := [(h, .inr (0, [.ref r1, .ref q7, .ref q15, .int (0 : Int32)])), (q15, aI cy 17 (fun _ => 0))]) (ws' := [(h, .inr (0, [.ref r1, .ref q7, .ref q15, .int (0 : Int32)])), (q7, aI cy 16 z36_20), (q15, aI cy 17 (fun _ => 0))]) C (runSc (n := 2) (As := [.ref q7, .int (-4 : Int32)]) (rest := []) C (c_J7_fill_53178 l D cy H.size q7 (-4 : Int32) (fun _ => (0 : Int32)) 16 hz36_20) ml_X0_28 st_J7_fill_53178 ii_J7 cd_J7_fill_53178 hd_J7_fill_53178 rfl rfl ⟨Nat.le_of_ble_eq_true rfl, Nat.le_of_ble_eq_true rfl⟩ (hP.sub [1] rfl) (hD.sub [1] (by decide) rfl) hS rfl hl.1 rfl (Nat.le_of_ble_eq_true rfl) dX0_init_36 ⟨Nat.le_of_ble_eq_true rfl, Nat.le_of_ble_eq_true rfl⟩) hP hD hS [1] [0, 2] [0, 2, 1] rfl rfl (by decide) (by decide) rfl (by decide) (fun H locs hP hD hS => ?_)
  obtain rfl := Option.some.inj hf
  exact ret_n (fun k => ([q7, q15] : List Nat).getD k 0) C (hP.sub [0, 1, 2] rfl) (hD.sub [0, 1, 2] (by decide) rfl) hS dX0_init_39
theorem hd_X0_init : yX0_init.cls ≠ "java/lang/invoke/MethodHandle" ∧ yX0_init.cls ≠ "java/lang/invoke/VarHandle" ∧ (parseMethodDescriptor yX0_init.desc).map (fun d => d.parameters.length) = some 1 := by decide +kernel
def f_X2_init : Option (Int32 × Int32 × Int32 × Int32 × Int32 × Int32) :=
  some ((1 : Int32), (0 : Int32), (1 : Int32), (0 : Int32), (0 : Int32), (-4 : Int32))
set_option maxHeartbeats 4000000 in
set_option maxRecDepth 100000 in
theorem c_X2_init (l : Launch) (D : va_G) (cy : Nat → ClassId) (sz : Nat) (h : Nat)  {z : Int32 × Int32 × Int32 × Int32 × Int32 × Int32} (hf : f_X2_init = some z) : Met l yX2_init (.code yX2_init cX2_init 1 none :: tb) ({ frames := 1, cells := 0, slots := 0, locals := 12 } : Room) (fun v U => kp D cy sz [.ref h] [(h, .inr (2, [.int (0 : Int32), .int (0 : Int32), .int (0 : Int32), .int (0 : Int32), .int (0 : Int32), .int (0 : Int32)]))] v U ∧ True) (kqn D cy (fun u => [(h, .inr (2, [.int z.1, .int z.2.1, .int z.2.2.1, .int z.2.2.2.1, .int z.2.2.2.2.1, .int z.2.2.2.2.2]))]) (va_A [(h, .inr (2, [.int (0 : Int32), .int (0 : Int32), .int (0 : Int32), .int (0 : Int32), .int (0 : Int32), .int (0 : Int32)]))] sz)) 0 0 (va_A [(h, .inr (2, [.int (0 : Int32), .int (0 : Int32), .int (0 : Int32), .int (0 : Int32), .int (0 : Int32), .int (0 : Int32)]))] sz) := by
  refine met_ofN (Px := fun U => True) (fun A => kqn D cy (fun u => [(h, .inr (2, [.int z.1, .int z.2.1, .int z.2.2.1, .int z.2.2.2.1, .int z.2.2.2.2.1, .int z.2.2.2.2.2]))]) A) (by decide +kernel) (Nat.le_of_ble_eq_true rfl) (fun p e s m below meth c A ls C hin ho hP hD hS hl => ?_)
  obtain ⟨hx, hb, hr, hml, hown, hts, hlk, hK, hA, hN⟩ := id C
  unfold f_X2_init at hf
  have hl : lv_has ls 1 [(0, .ref h)] := hl
  refine lv_aload_n hx hb dX2_init_0 rfl (lv_at hl 0 rfl) ?_
  refine W.objInit hx hb hown (hts _ ml_X2_3) (hts _ im_Obj_init) (hts _ cd_Obj_init) rfl (by rw [hml]; exact hl.1) rfl dX2_init_1 (Nat.le_of_ble_eq_true rfl) (Nat.le_of_ble_eq_true rfl) ?_
  refine W.eq (g2 := F0 m 4 ls []) rfl ?_
  refine lv_aload_n hx hb dX2_init_4 rfl (lv_at hl 0 rfl) ?_
  refine lv_iconst (v := 1) hx hb dX2_init_5 (by decide) ?_
  refine va_put (D := D) (ci := 2) (v := .int (1 : Int32)) (ty := .int) (C := RX2) (T := TX2) (N := 6) hx hb hts ui_X2 tyX2 tyX2_ok nmX2 hown hK hP hD hS 0 rfl rfl 0 (by decide) (hts _ fl_X2_9) (fun _ h9 => h9) rfl (by decide +kernel) rfl rfl (Nat.le_of_ble_eq_true rfl) dX2_init_6 (fun H locs hP hD hS => ?_)
  have hP : va_P D vwCl [(h, .inr (2, [.int (1 : Int32), .int (0 : Int32), .int (0 : Int32), .int (0 : Int32), .int (0 : Int32), .int (0 : Int32)]))] H := hP
  have hD : va_D A [(h, .inr (2, [.int (1 : Int32), .int (0 : Int32), .int (0 : Int32), .int (0 : Int32), .int (0 : Int32), .int (0 : Int32)]))] := hD
  refine lv_aload_n hx hb dX2_init_9 rfl (lv_at hl 0 rfl) ?_
  refine lv_iconst (v := 0) hx hb dX2_init_10 (by decide) ?_
  refine va_put (D := D) (ci := 2) (v := .int (0 : Int32)) (ty := .int) (C := RX2) (T := TX2) (N := 6) hx hb hts ui_X2 tyX2 tyX2_ok nmX2 hown hK hP hD hS 0 rfl rfl 1 (by decide) (hts _ fl_X2_15) (fun _ h9 => h9) rfl (by decide +kernel) rfl rfl (Nat.le_of_ble_eq_true rfl) dX2_init_11 (fun H locs hP hD hS => ?_)
  have hP : va_P D vwCl [(h, .inr (2, [.int (1 : Int32), .int (0 : Int32), .int (0 : Int32), .int (0 : Int32), .int (0 : Int32), .int (0 : Int32)]))] H := hP
  have hD : va_D A [(h, .inr (2, [.int (1 : Int32), .int (0 : Int32), .int (0 : Int32), .int (0 : Int32), .int (0 : Int32), .int (0 : Int32)]))] := hD
  refine lv_aload_n hx hb dX2_init_14 rfl (lv_at hl 0 rfl) ?_
  refine lv_iconst (v := 1) hx hb dX2_init_15 (by decide) ?_
  refine va_put (D := D) (ci := 2) (v := .int (1 : Int32)) (ty := .int) (C := RX2) (T := TX2) (N := 6) hx hb hts ui_X2 tyX2 tyX2_ok nmX2 hown hK hP hD hS 0 rfl rfl 2 (by decide) (hts _ fl_X2_18) (fun _ h9 => h9) rfl (by decide +kernel) rfl rfl (Nat.le_of_ble_eq_true rfl) dX2_init_16 (fun H locs hP hD hS => ?_)
  have hP : va_P D vwCl [(h, .inr (2, [.int (1 : Int32), .int (0 : Int32), .int (1 : Int32), .int (0 : Int32), .int (0 : Int32), .int (0 : Int32)]))] H := hP
  have hD : va_D A [(h, .inr (2, [.int (1 : Int32), .int (0 : Int32), .int (1 : Int32), .int (0 : Int32), .int (0 : Int32), .int (0 : Int32)]))] := hD
  refine lv_aload_n hx hb dX2_init_19 rfl (lv_at hl 0 rfl) ?_
  refine lv_iconst (v := 0) hx hb dX2_init_20 (by decide) ?_
  refine va_put (D := D) (ci := 2) (v := .int (0 : Int32)) (ty := .int) (C := RX2) (T := TX2) (N := 6) hx hb hts ui_X2 tyX2 tyX2_ok nmX2 hown hK hP hD hS 0 rfl rfl 3 (by decide) (hts _ fl_X2_21) (fun _ h9 => h9) rfl (by decide +kernel) rfl rfl (Nat.le_of_ble_eq_true rfl) dX2_init_21 (fun H locs hP hD hS => ?_)
  have hP : va_P D vwCl [(h, .inr (2, [.int (1 : Int32), .int (0 : Int32), .int (1 : Int32), .int (0 : Int32), .int (0 : Int32), .int (0 : Int32)]))] H := hP
  have hD : va_D A [(h, .inr (2, [.int (1 : Int32), .int (0 : Int32), .int (1 : Int32), .int (0 : Int32), .int (0 : Int32), .int (0 : Int32)]))] := hD
  refine lv_aload_n hx hb dX2_init_24 rfl (lv_at hl 0 rfl) ?_
  refine lv_iconst (v := 0) hx hb dX2_init_25 (by decide) ?_
  refine va_put (D := D) (ci := 2) (v := .int (0 : Int32)) (ty := .int) (C := RX2) (T := TX2) (N := 6) hx hb hts ui_X2 tyX2 tyX2_ok nmX2 hown hK hP hD hS 0 rfl rfl 4 (by decide) (hts _ fl_X2_24) (fun _ h9 => h9) rfl (by decide +kernel) rfl rfl (Nat.le_of_ble_eq_true rfl) dX2_init_26 (fun H locs hP hD hS => ?_)
  have hP : va_P D vwCl [(h, .inr (2, [.int (1 : Int32), .int (0 : Int32), .int (1 : Int32), .int (0 : Int32), .int (0 : Int32), .int (0 : Int32)]))] H := hP
  have hD : va_D A [(h, .inr (2, [.int (1 : Int32), .int (0 : Int32), .int (1 : Int32), .int (0 : Int32), .int (0 : Int32), .int (0 : Int32)]))] := hD
  refine lv_aload_n hx hb dX2_init_29 rfl (lv_at hl 0 rfl) ?_
  refine lv_bipush (v := -4) hx hb dX2_init_30 (by decide) ?_
  refine va_put (D := D) (ci := 2) (v := .int (-4 : Int32)) (ty := .int) (C := RX2) (T := TX2) (N := 6) hx hb hts ui_X2 tyX2 tyX2_ok nmX2 hown hK hP hD hS 0 rfl rfl 5 (by decide) (hts _ fl_X2_27) (fun _ h9 => h9) rfl (by decide +kernel) rfl rfl (Nat.le_of_ble_eq_true rfl) dX2_init_32 (fun H locs hP hD hS => ?_)
  have hP : va_P D vwCl [(h, .inr (2, [.int (1 : Int32), .int (0 : Int32), .int (1 : Int32), .int (0 : Int32), .int (0 : Int32), .int (-4 : Int32)]))] H := hP
  have hD : va_D A [(h, .inr (2, [.int (1 : Int32), .int (0 : Int32), .int (1 : Int32), .int (0 : Int32), .int (0 : Int32), .int (-4 : Int32)]))] := hD
  obtain rfl := Option.some.inj hf
  exact ret_n (fun k => ([] : List Nat).getD k 0) C (hP.sub [0] rfl) (hD.sub [0] (by decide) rfl) hS dX2_init_35
theorem hd_X2_init : yX2_init.cls ≠ "java/lang/invoke/MethodHandle" ∧ yX2_init.cls ≠ "java/lang/invoke/VarHandle" ∧ (parseMethodDescriptor yX2_init.desc).map (fun d => d.parameters.length) = some 0 := by decide +kernel
def f_X3_init : Option (Int32 × Int32 × Int64 × (Nat → Int32) × (Nat → Int32) × (Nat → Int64)) :=
  some ((0 : Int32), (0 : Int32), (1 : Int64), (fun _ => (0 : Int32)), (fun _ => (0 : Int32)), (fun _ => (0 : Int64)))
set_option maxHeartbeats 4000000 in
set_option maxRecDepth 100000 in
theorem c_X3_init (l : Launch) (D : va_G) (cy : Nat → ClassId) (sz : Nat) (h r1 : Nat)  {z : Int32 × Int32 × Int64 × (Nat → Int32) × (Nat → Int32) × (Nat → Int64)} (hf : f_X3_init = some z) : Met l yX3_init (.code yX3_init cX3_init 2 none :: tb) ({ frames := 1, cells := 3, slots := 156, locals := 12 } : Room) (fun v U => kp D cy sz [.ref h, .ref r1] [(h, .inr (3, [.null, .null, .null, .null, .int (0 : Int32), .int (0 : Int32), .long (0 : Int64)]))] v U ∧ True) (kqn D cy (fun u => [(h, .inr (3, [.ref r1, .ref (u 0), .ref (u 1), .ref (u 2), .int z.1, .int z.2.1, .long z.2.2.1])), ((u 0), aI cy 12 z.2.2.2.1), ((u 1), aI cy 12 z.2.2.2.2.1), ((u 2), aJ cy 132 z.2.2.2.2.2)]) (va_A [(h, .inr (3, [.null, .null, .null, .null, .int (0 : Int32), .int (0 : Int32), .long (0 : Int64)]))] sz)) 3 156 (va_A [(h, .inr (3, [.null, .null, .null, .null, .int (0 : Int32), .int (0 : Int32), .long (0 : Int64)]))] sz) := by
  refine met_ofN (Px := fun U => True) (fun A => kqn D cy (fun u => [(h, .inr (3, [.ref r1, .ref (u 0), .ref (u 1), .ref (u 2), .int z.1, .int z.2.1, .long z.2.2.1])), ((u 0), aI cy 12 z.2.2.2.1), ((u 1), aI cy 12 z.2.2.2.2.1), ((u 2), aJ cy 132 z.2.2.2.2.2)]) A) (by decide +kernel) (Nat.le_of_ble_eq_true rfl) (fun p e s m below meth c A ls C hin ho hP hD hS hl => ?_)
  obtain ⟨hx, hb, hr, hml, hown, hts, hlk, hK, hA, hN⟩ := id C
  unfold f_X3_init at hf
  have hl : lv_has ls 2 [(0, .ref h), (1, .ref r1)] := hl
  refine lv_aload_n hx hb dX3_init_0 rfl (lv_at hl 0 rfl) ?_
  refine W.objInit hx hb hown (hts _ ml_X3_5) (hts _ im_Obj_init) (hts _ cd_Obj_init) rfl (by rw [hml]; exact hl.1) rfl dX3_init_1 (Nat.le_of_ble_eq_true rfl) (Nat.le_of_ble_eq_true rfl) ?_
  refine W.eq (g2 := F0 m 4 ls []) rfl ?_
  refine lv_aload_n hx hb dX3_init_4 rfl (lv_at hl 0 rfl) ?_
  refine lv_bipush (v := 12) hx hb dX3_init_5 (by decide) ?_
  refine newI C hP hD hS (by decide) rfl (Nat.le_of_ble_eq_true rfl) (Nat.le_of_ble_eq_true rfl) (Nat.le_of_ble_eq_true rfl) dX3_init_7 (fun q7 H hP hD hS => ?_)
  have hP : va_P D vwCl [(h, .inr (3, [.null, .null, .null, .null, .int (0 : Int32), .int (0 : Int32), .long (0 : Int64)])), (q7, aI cy 12 (fun _ => 0))] H := hP
  have hD : va_D A [(h, .inr (3, [.null, .null, .null, .null, .int (0 : Int32), .int (0 : Int32), .long (0 : Int64)])), (q7, aI cy 12 (fun _ => 0))] := hD
  refine W.widen (k := 1) (n := 12) (Nat.le_refl _) (Nat.le_refl _) ?_
  refine va_putF (D := D) (ci := 3) (v := .ref q7) (ty := (.array .int)) (C := RX3) (T := TX3) (N := 7) hx hb hts ui_X3 tyX3 tyX3_ok nmX3 hown hK hP hD hS 0 rfl rfl 1 (by decide) (hts _ fl_X3_13) (fun _ h9 => h9) rfl hin rfl (by decide +kernel) rfl rfl (Nat.le_of_ble_eq_true rfl) dX3_init_9 (fun H locs hP hD hS => ?_)
  have hP : va_P D vwCl [(h, .inr (3, [.null, .ref q7, .null, .null, .int (0 : Int32), .int (0 : Int32), .long (0 : Int64)])), (q7, aI cy 12 (fun _ => 0))] H := hP
  have hD : va_D A [(h, .inr (3, [.null, .ref q7, .null, .null, .int (0 : Int32), .int (0 : Int32), .long (0 : Int64)])), (q7, aI cy 12 (fun _ => 0))] := hD
  refine lv_aload_n hx hb dX3_init_12 rfl (lv_at hl 0 rfl) ?_
  refine lv_bipush (v := 12) hx hb dX3_init_13 (by decide) ?_
  refine newI C hP hD hS (by decide) rfl (Nat.le_of_ble_eq_true rfl) (Nat.le_of_ble_eq_true rfl) (Nat.le_of_ble_eq_true rfl) dX3_init_15 (fun q15 H hP hD hS => ?_)
  have hP : va_P D vwCl [(h, .inr (3, [.null, .ref q7, .null, .null, .int (0 : Int32), .int (0 : Int32), .long (0 : Int64)])), (q7, aI cy 12 (fun _ => 0)), (q15, aI cy 12 (fun _ => 0))] H := hP
  have hD : va_D A [(h, .inr (3, [.null, .ref q7, .null, .null, .int (0 : Int32), .int (0 : Int32), .long (0 : Int64)])), (q7, aI cy 12 (fun _ => 0)), (q15, aI cy 12 (fun _ => 0))] := hD
  refine W.widen (k := 2) (n := 24) (Nat.le_refl _) (Nat.le_refl _) ?_
  refine va_putF (D := D) (ci := 3) (v := .ref q15) (ty := (.array .int)) (C := RX3) (T := TX3) (N := 7) hx hb hts ui_X3 tyX3 tyX3_ok nmX3 hown hK hP hD hS 0 rfl rfl 2 (by decide) (hts _ fl_X3_17) (fun _ h9 => h9) rfl hin rfl (by decide +kernel) rfl rfl (Nat.le_of_ble_eq_true rfl) dX3_init_17 (fun H locs hP hD hS => ?_)
  have hP : va_P D vwCl [(h, .inr (3, [.null, .ref q7, .ref q15, .null, .int (0 : Int32), .int (0 : Int32), .long (0 : Int64)])), (q7, aI cy 12 (fun _ => 0)), (q15, aI cy 12 (fun _ => 0))] H := hP
  have hD : va_D A [(h, .inr (3, [.null, .ref q7, .ref q15, .null, .int (0 : Int32), .int (0 : Int32), .long (0 : Int64)])), (q7, aI cy 12 (fun _ => 0)), (q15, aI cy 12 (fun _ => 0))] := hD
  refine lv_aload_n hx hb dX3_init_20 rfl (lv_at hl 0 rfl) ?_
  refine lv_sipush (v := 132) hx hb dX3_init_21 (by decide) ?_
  refine newJ C hP hD hS (by decide) rfl (Nat.le_of_ble_eq_true rfl) (Nat.le_of_ble_eq_true rfl) (Nat.le_of_ble_eq_true rfl) dX3_init_24 (fun q24 H hP hD hS => ?_)
  have hP : va_P D vwCl [(h, .inr (3, [.null, .ref q7, .ref q15, .null, .int (0 : Int32), .int (0 : Int32), .long (0 : Int64)])), (q7, aI cy 12 (fun _ => 0)), (q15, aI cy 12 (fun _ => 0)), (q24, aJ cy 132 (fun _ => 0))] H := hP
  have hD : va_D A [(h, .inr (3, [.null, .ref q7, .ref q15, .null, .int (0 : Int32), .int (0 : Int32), .long (0 : Int64)])), (q7, aI cy 12 (fun _ => 0)), (q15, aI cy 12 (fun _ => 0)), (q24, aJ cy 132 (fun _ => 0))] := hD
  refine W.widen (k := 3) (n := 156) (Nat.le_refl _) (Nat.le_refl _) ?_
  refine va_putF (D := D) (ci := 3) (v := .ref q24) (ty := (.array .long)) (C := RX3) (T := TX3) (N := 7) hx hb hts ui_X3 tyX3 tyX3_ok nmX3 hown hK hP hD hS 0 rfl rfl 3 (by decide) (hts _ fl_X3_20) (fun _ h9 => h9) rfl hin rfl (by decide +kernel) rfl rfl (Nat.le_of_ble_eq_true rfl) dX3_init_26 (fun H locs hP hD hS => ?_)
  have hP : va_P D vwCl [(h, .inr (3, [.null, .ref q7, .ref q15, .ref q24, .int (0 : Int32), .int (0 : Int32), .long (0 : Int64)])), (q7, aI cy 12 (fun _ => 0)), (q15, aI cy 12 (fun _ => 0)), (q24, aJ cy 132 (fun _ => 0))] H := hP
  have hD : va_D A [(h, .inr (3, [.null, .ref q7, .ref q15, .ref q24, .int (0 : Int32), .int (0 : Int32), .long (0 : Int64)])), (q7, aI cy 12 (fun _ => 0)), (q15, aI cy 12 (fun _ => 0)), (q24, aJ cy 132 (fun _ => 0))] := hD
  refine lv_aload_n hx hb dX3_init_29 rfl (lv_at hl 0 rfl) ?_
  refine lv_iconst (v := 0) hx hb dX3_init_30 (by decide) ?_
  refine va_put (D := D) (ci := 3) (v := .int (0 : Int32)) (ty := .int) (C := RX3) (T := TX3) (N := 7) hx hb hts ui_X3 tyX3 tyX3_ok nmX3 hown hK hP hD hS 0 rfl rfl 4 (by decide) (hts _ fl_X3_24) (fun _ h9 => h9) rfl (by decide +kernel) rfl rfl (Nat.le_of_ble_eq_true rfl) dX3_init_31 (fun H locs hP hD hS => ?_)
  have hP : va_P D vwCl [(h, .inr (3, [.null, .ref q7, .ref q15, .ref q24, .int (0 : Int32), .int (0 : Int32), .long (0 : Int64)])), (q7, aI cy 12 (fun _ => 0)), (q15, aI cy 12 (fun _ => 0)), (q24, aJ cy 132 (fun _ => 0))] H := hP
  have hD : va_D A [(h, .inr (3, [.null, .ref q7, .ref q15, .ref q24, .int (0 : Int32), .int (0 : Int32), .long (0 : Int64)])), (q7, aI cy 12 (fun _ => 0)), (q15, aI cy 12 (fun _ => 0)), (q24, aJ cy 132 (fun _ => 0))] := hD
  refine lv_aload_n hx hb dX3_init_34 rfl (lv_at hl 0 rfl) ?_
  refine lv_iconst (v := 0) hx hb dX3_init_35 (by decide) ?_
  refine va_put (D := D) (ci := 3) (v := .int (0 : Int32)) (ty := .int) (C := RX3) (T := TX3) (N := 7) hx hb hts ui_X3 tyX3 tyX3_ok nmX3 hown hK hP hD hS 0 rfl rfl 5 (by decide) (hts _ fl_X3_28) (fun _ h9 => h9) rfl (by decide +kernel) rfl rfl (Nat.le_of_ble_eq_true rfl) dX3_init_36 (fun H locs hP hD hS => ?_)
  have hP : va_P D vwCl [(h, .inr (3, [.null, .ref q7, .ref q15, .ref q24, .int (0 : Int32), .int (0 : Int32), .long (0 : Int64)])), (q7, aI cy 12 (fun _ => 0)), (q15, aI cy 12 (fun _ => 0)), (q24, aJ cy 132 (fun _ => 0))] H := hP
  have hD : va_D A [(h, .inr (3, [.null, .ref q7, .ref q15, .ref q24, .int (0 : Int32), .int (0 : Int32), .long (0 : Int64)])), (q7, aI cy 12 (fun _ => 0)), (q15, aI cy 12 (fun _ => 0)), (q24, aJ cy 132 (fun _ => 0))] := hD
  refine lv_aload_n hx hb dX3_init_39 rfl (lv_at hl 0 rfl) ?_
  refine lv_lconst (v := 1) hx hb dX3_init_40 (by decide) ?_
  refine va_put (D := D) (ci := 3) (v := .long (1 : Int64)) (ty := .long) (C := RX3) (T := TX3) (N := 7) hx hb hts ui_X3 tyX3 tyX3_ok nmX3 hown hK hP hD hS 0 rfl rfl 6 (by decide) (hts _ fl_X3_31) (fun _ h9 => h9) rfl (by decide +kernel) rfl rfl (Nat.le_of_ble_eq_true rfl) dX3_init_41 (fun H locs hP hD hS => ?_)
  have hP : va_P D vwCl [(h, .inr (3, [.null, .ref q7, .ref q15, .ref q24, .int (0 : Int32), .int (0 : Int32), .long (1 : Int64)])), (q7, aI cy 12 (fun _ => 0)), (q15, aI cy 12 (fun _ => 0)), (q24, aJ cy 132 (fun _ => 0))] H := hP
  have hD : va_D A [(h, .inr (3, [.null, .ref q7, .ref q15, .ref q24, .int (0 : Int32), .int (0 : Int32), .long (1 : Int64)])), (q7, aI cy 12 (fun _ => 0)), (q15, aI cy 12 (fun _ => 0)), (q24, aJ cy 132 (fun _ => 0))] := hD
  refine lv_aload_n hx hb dX3_init_44 rfl (lv_at hl 0 rfl) ?_
  refine lv_aload_n hx hb dX3_init_45 rfl (lv_at hl 1 rfl) ?_
  refine va_putF (D := D) (ci := 3) (v := .ref r1) (ty := .object "VoltNumbers$Rules") (C := RX3) (T := TX3) (N := 7) hx hb hts ui_X3 tyX3 tyX3_ok nmX3 hown hK hP hD hS 0 rfl rfl 0 (by decide) (hts _ fl_X3_35) (fun _ h9 => h9) rfl hin rfl (by decide +kernel) rfl rfl (Nat.le_of_ble_eq_true rfl) dX3_init_46 (fun H locs hP hD hS => ?_)
  have hP : va_P D vwCl [(h, .inr (3, [.ref r1, .ref q7, .ref q15, .ref q24, .int (0 : Int32), .int (0 : Int32), .long (1 : Int64)])), (q7, aI cy 12 (fun _ => 0)), (q15, aI cy 12 (fun _ => 0)), (q24, aJ cy 132 (fun _ => 0))] H := hP
  have hD : va_D A [(h, .inr (3, [.ref r1, .ref q7, .ref q15, .ref q24, .int (0 : Int32), .int (0 : Int32), .long (1 : Int64)])), (q7, aI cy 12 (fun _ => 0)), (q15, aI cy 12 (fun _ => 0)), (q24, aJ cy 132 (fun _ => 0))] := hD
  obtain rfl := Option.some.inj hf
  exact ret_n (fun k => ([q7, q15, q24] : List Nat).getD k 0) C (hP.sub [0, 1, 2, 3] rfl) (hD.sub [0, 1, 2, 3] (by decide) rfl) hS dX3_init_49
theorem hd_X3_init : yX3_init.cls ≠ "java/lang/invoke/MethodHandle" ∧ yX3_init.cls ≠ "java/lang/invoke/VarHandle" ∧ (parseMethodDescriptor yX3_init.desc).map (fun d => d.parameters.length) = some 1 := by decide +kernel
def f_X6_init : Option (Int32 × Int32 × (Nat → Int32)) :=
  some ((0 : Int32), (-4 : Int32), (fun _ => (0 : Int32)))
set_option maxHeartbeats 4000000 in
set_option maxRecDepth 100000 in
theorem c_X6_init (l : Launch) (D : va_G) (cy : Nat → ClassId) (sz : Nat) (h : Nat)  {z : Int32 × Int32 × (Nat → Int32)} (hf : f_X6_init = some z) : Met l yX6_init (.code yX6_init cX6_init 1 none :: tb) ({ frames := 1, cells := 1, slots := 64, locals := 12 } : Room) (fun v U => kp D cy sz [.ref h] [(h, .inr (6, [.null, .int (0 : Int32), .int (0 : Int32)]))] v U ∧ True) (kqn D cy (fun u => [(h, .inr (6, [.ref (u 0), .int z.1, .int z.2.1])), ((u 0), aI cy 64 z.2.2)]) (va_A [(h, .inr (6, [.null, .int (0 : Int32), .int (0 : Int32)]))] sz)) 1 64 (va_A [(h, .inr (6, [.null, .int (0 : Int32), .int (0 : Int32)]))] sz) := by
  refine met_ofN (Px := fun U => True) (fun A => kqn D cy (fun u => [(h, .inr (6, [.ref (u 0), .int z.1, .int z.2.1])), ((u 0), aI cy 64 z.2.2)]) A) (by decide +kernel) (Nat.le_of_ble_eq_true rfl) (fun p e s m below meth c A ls C hin ho hP hD hS hl => ?_)
  obtain ⟨hx, hb, hr, hml, hown, hts, hlk, hK, hA, hN⟩ := id C
  unfold f_X6_init at hf
  have hl : lv_has ls 1 [(0, .ref h)] := hl
  refine lv_aload_n hx hb dX6_init_0 rfl (lv_at hl 0 rfl) ?_
  refine W.objInit hx hb hown (hts _ ml_X6_3) (hts _ im_Obj_init) (hts _ cd_Obj_init) rfl (by rw [hml]; exact hl.1) rfl dX6_init_1 (Nat.le_of_ble_eq_true rfl) (Nat.le_of_ble_eq_true rfl) ?_
  refine W.eq (g2 := F0 m 4 ls []) rfl ?_
  refine lv_aload_n hx hb dX6_init_4 rfl (lv_at hl 0 rfl) ?_
  refine lv_bipush (v := 64) hx hb dX6_init_5 (by decide) ?_
  refine newI C hP hD hS (by decide) rfl (Nat.le_of_ble_eq_true rfl) (Nat.le_of_ble_eq_true rfl) (Nat.le_of_ble_eq_true rfl) dX6_init_7 (fun q7 H hP hD hS => ?_)
  have hP : va_P D vwCl [(h, .inr (6, [.null, .int (0 : Int32), .int (0 : Int32)])), (q7, aI cy 64 (fun _ => 0))] H := hP
  have hD : va_D A [(h, .inr (6, [.null, .int (0 : Int32), .int (0 : Int32)])), (q7, aI cy 64 (fun _ => 0))] := hD
  refine W.widen (k := 1) (n := 64) (Nat.le_refl _) (Nat.le_refl _) ?_
  refine va_putF (D := D) (ci := 6) (v := .ref q7) (ty := (.array .int)) (C := RX6) (T := TX6) (N := 3) hx hb hts ui_X6 tyX6 tyX6_ok nmX6 hown hK hP hD hS 0 rfl rfl 0 (by decide) (hts _ fl_X6_11) (fun _ h9 => h9) rfl hin rfl (by decide +kernel) rfl rfl (Nat.le_of_ble_eq_true rfl) dX6_init_9 (fun H locs hP hD hS => ?_)
  have hP : va_P D vwCl [(h, .inr (6, [.ref q7, .int (0 : Int32), .int (0 : Int32)])), (q7, aI cy 64 (fun _ => 0))] H := hP
  have hD : va_D A [(h, .inr (6, [.ref q7, .int (0 : Int32), .int (0 : Int32)])), (q7, aI cy 64 (fun _ => 0))] := hD
  refine lv_aload_n hx hb dX6_init_12 rfl (lv_at hl 0 rfl) ?_
  refine lv_iconst (v := 0) hx hb dX6_init_13 (by decide) ?_
  refine va_put (D := D) (ci := 6) (v := .int (0 : Int32)) (ty := .int) (C := RX6) (T := TX6) (N := 3) hx hb hts ui_X6 tyX6 tyX6_ok nmX6 hown hK hP hD hS 0 rfl rfl 1 (by decide) (hts _ fl_X6_15) (fun _ h9 => h9) rfl (by decide +kernel) rfl rfl (Nat.le_of_ble_eq_true rfl) dX6_init_14 (fun H locs hP hD hS => ?_)
  have hP : va_P D vwCl [(h, .inr (6, [.ref q7, .int (0 : Int32), .int (0 : Int32)])), (q7, aI cy 64 (fun _ => 0))] H := hP
  have hD : va_D A [(h, .inr (6, [.ref q7, .int (0 : Int32), .int (0 : Int32)])), (q7, aI cy 64 (fun _ => 0))] := hD
  refine lv_aload_n hx hb dX6_init_17 rfl (lv_at hl 0 rfl) ?_
  refine lv_bipush (v := -4) hx hb dX6_init_18 (by decide) ?_
  refine va_put (D := D) (ci := 6) (v := .int (-4 : Int32)) (ty := .int) (C := RX6) (T := TX6) (N := 3) hx hb hts ui_X6 tyX6 tyX6_ok nmX6 hown hK hP hD hS 0 rfl rfl 2 (by decide) (hts _ fl_X6_19) (fun _ h9 => h9) rfl (by decide +kernel) rfl rfl (Nat.le_of_ble_eq_true rfl) dX6_init_20 (fun H locs hP hD hS => ?_)
  have hP : va_P D vwCl [(h, .inr (6, [.ref q7, .int (0 : Int32), .int (-4 : Int32)])), (q7, aI cy 64 (fun _ => 0))] H := hP
  have hD : va_D A [(h, .inr (6, [.ref q7, .int (0 : Int32), .int (-4 : Int32)])), (q7, aI cy 64 (fun _ => 0))] := hD
  obtain rfl := Option.some.inj hf
  exact ret_n (fun k => ([q7] : List Nat).getD k 0) C (hP.sub [0, 1] rfl) (hD.sub [0, 1] (by decide) rfl) hS dX6_init_23
theorem hd_X6_init : yX6_init.cls ≠ "java/lang/invoke/MethodHandle" ∧ yX6_init.cls ≠ "java/lang/invoke/VarHandle" ∧ (parseMethodDescriptor yX6_init.desc).map (fun d => d.parameters.length) = some 0 := by decide +kernel
def f_X10_init : Option (Int32 × Int32 × (Nat → Int32)) :=
  some ((-4 : Int32), (0 : Int32), (fun _ => (0 : Int32)))
set_option maxHeartbeats 4000000 in
set_option maxRecDepth 100000 in
theorem c_X10_init (l : Launch) (D : va_G) (cy : Nat → ClassId) (sz : Nat) (h : Nat)  {z : Int32 × Int32 × (Nat → Int32)} (hf : f_X10_init = some z) : Met l yX10_init (.code yX10_init cX10_init 1 none :: tb) ({ frames := 1, cells := 1, slots := 256, locals := 12 } : Room) (fun v U => kp D cy sz [.ref h] [(h, .inr (10, [.null, .int (0 : Int32), .int (0 : Int32)]))] v U ∧ True) (kqn D cy (fun u => [(h, .inr (10, [.ref (u 0), .int z.1, .int z.2.1])), ((u 0), aI cy 256 z.2.2)]) (va_A [(h, .inr (10, [.null, .int (0 : Int32), .int (0 : Int32)]))] sz)) 1 256 (va_A [(h, .inr (10, [.null, .int (0 : Int32), .int (0 : Int32)]))] sz) := by
  refine met_ofN (Px := fun U => True) (fun A => kqn D cy (fun u => [(h, .inr (10, [.ref (u 0), .int z.1, .int z.2.1])), ((u 0), aI cy 256 z.2.2)]) A) (by decide +kernel) (Nat.le_of_ble_eq_true rfl) (fun p e s m below meth c A ls C hin ho hP hD hS hl => ?_)
  obtain ⟨hx, hb, hr, hml, hown, hts, hlk, hK, hA, hN⟩ := id C
  unfold f_X10_init at hf
  have hl : lv_has ls 1 [(0, .ref h)] := hl
  refine lv_aload_n hx hb dX10_init_0 rfl (lv_at hl 0 rfl) ?_
  refine W.objInit hx hb hown (hts _ ml_X10_3) (hts _ im_Obj_init) (hts _ cd_Obj_init) rfl (by rw [hml]; exact hl.1) rfl dX10_init_1 (Nat.le_of_ble_eq_true rfl) (Nat.le_of_ble_eq_true rfl) ?_
  refine W.eq (g2 := F0 m 4 ls []) rfl ?_
  refine lv_aload_n hx hb dX10_init_4 rfl (lv_at hl 0 rfl) ?_
  refine lv_sipush (v := 256) hx hb dX10_init_5 (by decide) ?_
  refine newI C hP hD hS (by decide) rfl (Nat.le_of_ble_eq_true rfl) (Nat.le_of_ble_eq_true rfl) (Nat.le_of_ble_eq_true rfl) dX10_init_8 (fun q8 H hP hD hS => ?_)
  have hP : va_P D vwCl [(h, .inr (10, [.null, .int (0 : Int32), .int (0 : Int32)])), (q8, aI cy 256 (fun _ => 0))] H := hP
  have hD : va_D A [(h, .inr (10, [.null, .int (0 : Int32), .int (0 : Int32)])), (q8, aI cy 256 (fun _ => 0))] := hD
  refine W.widen (k := 1) (n := 256) (Nat.le_refl _) (Nat.le_refl _) ?_
  refine va_putF (D := D) (ci := 10) (v := .ref q8) (ty := (.array .int)) (C := RX10) (T := TX10) (N := 3) hx hb hts ui_X10 tyX10 tyX10_ok nmX10 hown hK hP hD hS 0 rfl rfl 0 (by decide) (hts _ fl_X10_11) (fun _ h9 => h9) rfl hin rfl (by decide +kernel) rfl rfl (Nat.le_of_ble_eq_true rfl) dX10_init_10 (fun H locs hP hD hS => ?_)
  have hP : va_P D vwCl [(h, .inr (10, [.ref q8, .int (0 : Int32), .int (0 : Int32)])), (q8, aI cy 256 (fun _ => 0))] H := hP
  have hD : va_D A [(h, .inr (10, [.ref q8, .int (0 : Int32), .int (0 : Int32)])), (q8, aI cy 256 (fun _ => 0))] := hD
  refine lv_aload_n hx hb dX10_init_13 rfl (lv_at hl 0 rfl) ?_
  refine lv_bipush (v := -4) hx hb dX10_init_14 (by decide) ?_
  refine va_put (D := D) (ci := 10) (v := .int (-4 : Int32)) (ty := .int) (C := RX10) (T := TX10) (N := 3) hx hb hts ui_X10 tyX10 tyX10_ok nmX10 hown hK hP hD hS 0 rfl rfl 1 (by decide) (hts _ fl_X10_17) (fun _ h9 => h9) rfl (by decide +kernel) rfl rfl (Nat.le_of_ble_eq_true rfl) dX10_init_16 (fun H locs hP hD hS => ?_)
  have hP : va_P D vwCl [(h, .inr (10, [.ref q8, .int (-4 : Int32), .int (0 : Int32)])), (q8, aI cy 256 (fun _ => 0))] H := hP
  have hD : va_D A [(h, .inr (10, [.ref q8, .int (-4 : Int32), .int (0 : Int32)])), (q8, aI cy 256 (fun _ => 0))] := hD
  refine lv_aload_n hx hb dX10_init_19 rfl (lv_at hl 0 rfl) ?_
  refine lv_iconst (v := 0) hx hb dX10_init_20 (by decide) ?_
  refine va_put (D := D) (ci := 10) (v := .int (0 : Int32)) (ty := .int) (C := RX10) (T := TX10) (N := 3) hx hb hts ui_X10 tyX10 tyX10_ok nmX10 hown hK hP hD hS 0 rfl rfl 2 (by decide) (hts _ fl_X10_21) (fun _ h9 => h9) rfl (by decide +kernel) rfl rfl (Nat.le_of_ble_eq_true rfl) dX10_init_21 (fun H locs hP hD hS => ?_)
  have hP : va_P D vwCl [(h, .inr (10, [.ref q8, .int (-4 : Int32), .int (0 : Int32)])), (q8, aI cy 256 (fun _ => 0))] H := hP
  have hD : va_D A [(h, .inr (10, [.ref q8, .int (-4 : Int32), .int (0 : Int32)])), (q8, aI cy 256 (fun _ => 0))] := hD
  obtain rfl := Option.some.inj hf
  exact ret_n (fun k => ([q8] : List Nat).getD k 0) C (hP.sub [0, 1] rfl) (hD.sub [0, 1] (by decide) rfl) hS dX10_init_24
theorem hd_X10_init : yX10_init.cls ≠ "java/lang/invoke/MethodHandle" ∧ yX10_init.cls ≠ "java/lang/invoke/VarHandle" ∧ (parseMethodDescriptor yX10_init.desc).map (fun d => d.parameters.length) = some 0 := by decide +kernel
