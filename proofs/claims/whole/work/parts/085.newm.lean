def f_X12_init : Option (Int32 × Int32 × Int32 × Int32 × Int32 × Int32 × Int32 × Int32 × Int32 × Int32 × Int32 × (Nat → Int32) × (Nat → Int32) × (Nat → Int32) × (Nat → Int32) × (Nat → Int32) × (Nat → Int32) × (Nat → Int32) × (Nat → Int32) × (Nat → Int32) × (Nat → Int32) × (Nat → Int32) × (Nat → Int32) × (Nat → Int32) × (Nat → Int64) × (Nat → Int32) × (Nat → Int32) × (Nat → Int32) × (Nat → Int32)) :=
  zl (upd (fun _ => (0 : Int32)) (0 : Int32).toNatClampNeg (0 : Int32)) fun a21 =>
  zl (upd a21 (1 : Int32).toNatClampNeg (4 : Int32)) fun a25 =>
  zl (upd a25 (2 : Int32).toNatClampNeg (8 : Int32)) fun a30 =>
  zl (upd a30 (3 : Int32).toNatClampNeg (14 : Int32)) fun a35 =>
  zl (upd a35 (4 : Int32).toNatClampNeg (17 : Int32)) fun a40 =>
  zl (upd a40 (5 : Int32).toNatClampNeg (21 : Int32)) fun a45 =>
  zl (upd a45 (6 : Int32).toNatClampNeg (24 : Int32)) fun a51 =>
  zl (upd a51 (7 : Int32).toNatClampNeg (28 : Int32)) fun a57 =>
  zl (upd a57 (8 : Int32).toNatClampNeg (34 : Int32)) fun a63 =>
  zl (upd (fun _ => (0 : Int32)) (0 : Int32).toNatClampNeg (98 : Int32)) fun a76 =>
  zl (upd a76 (1 : Int32).toNatClampNeg (105 : Int32)) fun a81 =>
  zl (upd a81 (2 : Int32).toNatClampNeg (116 : Int32)) fun a86 =>
  zl (upd a86 (3 : Int32).toNatClampNeg (115 : Int32)) fun a91 =>
  zl (upd a91 (4 : Int32).toNatClampNeg (117 : Int32)) fun a96 =>
  zl (upd a96 (5 : Int32).toNatClampNeg (110 : Int32)) fun a101 =>
  zl (upd a101 (6 : Int32).toNatClampNeg (105 : Int32)) fun a107 =>
  zl (upd a107 (7 : Int32).toNatClampNeg (116 : Int32)) fun a113 =>
  zl (upd a113 (8 : Int32).toNatClampNeg (111 : Int32)) fun a119 =>
  zl (upd a119 (9 : Int32).toNatClampNeg (102 : Int32)) fun a125 =>
  zl (upd a125 (10 : Int32).toNatClampNeg (102 : Int32)) fun a131 =>
  zl (upd a131 (11 : Int32).toNatClampNeg (115 : Int32)) fun a137 =>
  zl (upd a137 (12 : Int32).toNatClampNeg (101 : Int32)) fun a143 =>
  zl (upd a143 (13 : Int32).toNatClampNeg (116 : Int32)) fun a149 =>
  zl (upd a149 (14 : Int32).toNatClampNeg (116 : Int32)) fun a155 =>
  zl (upd a155 (15 : Int32).toNatClampNeg (111 : Int32)) fun a161 =>
  zl (upd a161 (16 : Int32).toNatClampNeg (112 : Int32)) fun a167 =>
  zl (upd a167 (17 : Int32).toNatClampNeg (108 : Int32)) fun a173 =>
  zl (upd a173 (18 : Int32).toNatClampNeg (101 : Int32)) fun a179 =>
  zl (upd a179 (19 : Int32).toNatClampNeg (97 : Int32)) fun a185 =>
  zl (upd a185 (20 : Int32).toNatClampNeg (110 : Int32)) fun a191 =>
  zl (upd a191 (21 : Int32).toNatClampNeg (114 : Int32)) fun a197 =>
  zl (upd a197 (22 : Int32).toNatClampNeg (101 : Int32)) fun a203 =>
  zl (upd a203 (23 : Int32).toNatClampNeg (102 : Int32)) fun a209 =>
  zl (upd a209 (24 : Int32).toNatClampNeg (109 : Int32)) fun a215 =>
  zl (upd a215 (25 : Int32).toNatClampNeg (105 : Int32)) fun a221 =>
  zl (upd a221 (26 : Int32).toNatClampNeg (115 : Int32)) fun a227 =>
  zl (upd a227 (27 : Int32).toNatClampNeg (115 : Int32)) fun a233 =>
  zl (upd a233 (28 : Int32).toNatClampNeg (115 : Int32)) fun a239 =>
  zl (upd a239 (29 : Int32).toNatClampNeg (116 : Int32)) fun a245 =>
  zl (upd a245 (30 : Int32).toNatClampNeg (114 : Int32)) fun a251 =>
  zl (upd a251 (31 : Int32).toNatClampNeg (105 : Int32)) fun a257 =>
  zl (upd a257 (32 : Int32).toNatClampNeg (110 : Int32)) fun a263 =>
  zl (upd a263 (33 : Int32).toNatClampNeg (103 : Int32)) fun a269 =>
  zl (upd (fun _ => (0 : Int32)) (0 : Int32).toNatClampNeg (4 : Int32)) fun a281 =>
  zl (upd a281 (1 : Int32).toNatClampNeg (16 : Int32)) fun a286 =>
  zl (upd a286 (2 : Int32).toNatClampNeg (0 : Int32)) fun a290 =>
  zl (upd a290 (3 : Int32).toNatClampNeg (0 : Int32)) fun a294 =>
  zl (upd a294 (4 : Int32).toNatClampNeg (0 : Int32)) fun a298 =>
  zl (upd a298 (5 : Int32).toNatClampNeg (100 : Int32)) fun a303 =>
  zl (upd a303 (6 : Int32).toNatClampNeg (0 : Int32)) fun a308 =>
  zl (upd a308 (7 : Int32).toNatClampNeg (0 : Int32)) fun a313 =>
  zl (upd a313 (8 : Int32).toNatClampNeg (0 : Int32)) fun a318 =>
  zl (upd a318 (9 : Int32).toNatClampNeg (0 : Int32)) fun a323 =>
  zl (upd a323 (10 : Int32).toNatClampNeg (0 : Int32)) fun a328 =>
  zl (upd a328 (11 : Int32).toNatClampNeg (0 : Int32)) fun a333 =>
  zl (upd a333 (12 : Int32).toNatClampNeg (0 : Int32)) fun a338 =>
  zl (upd a338 (13 : Int32).toNatClampNeg (0 : Int32)) fun a343 =>
  zl (upd a343 (14 : Int32).toNatClampNeg (0 : Int32)) fun a348 =>
  zl (upd a348 (15 : Int32).toNatClampNeg (10 : Int32)) fun a354 =>
  zl (upd a354 (16 : Int32).toNatClampNeg (10 : Int32)) fun a360 =>
  zl (upd a360 (17 : Int32).toNatClampNeg (10 : Int32)) fun a366 =>
  zl (upd a366 (18 : Int32).toNatClampNeg (10 : Int32)) fun a372 =>
  zl (upd a372 (19 : Int32).toNatClampNeg (10 : Int32)) fun a378 =>
  zl (upd a378 (20 : Int32).toNatClampNeg (10 : Int32)) fun a384 =>
  zl (upd a384 (21 : Int32).toNatClampNeg (10 : Int32)) fun a390 =>
  zl (upd a390 (22 : Int32).toNatClampNeg (10 : Int32)) fun a396 =>
  zl (upd a396 (23 : Int32).toNatClampNeg (10 : Int32)) fun a402 =>
  zl (upd a402 (24 : Int32).toNatClampNeg (10 : Int32)) fun a408 =>
  zl (upd a408 (25 : Int32).toNatClampNeg (10 : Int32)) fun a414 =>
  zl (upd a414 (26 : Int32).toNatClampNeg (10 : Int32)) fun a420 =>
  zl (upd a420 (27 : Int32).toNatClampNeg (10 : Int32)) fun a426 =>
  zl (upd a426 (28 : Int32).toNatClampNeg (10 : Int32)) fun a432 =>
  zl (upd a432 (29 : Int32).toNatClampNeg (10 : Int32)) fun a438 =>
  zl (upd a438 (30 : Int32).toNatClampNeg (10 : Int32)) fun a444 =>
  zl (upd (fun _ => (0 : Int32)) (0 : Int32).toNatClampNeg (-4 : Int32)) fun a483 =>
  zl (upd a483 (1 : Int32).toNatClampNeg (-4 : Int32)) fun a488 =>
  zl (upd a488 (2 : Int32).toNatClampNeg (-4 : Int32)) fun a493 =>
  zl (upd a493 (3 : Int32).toNatClampNeg (-4 : Int32)) fun a498 =>
  zl (upd a498 (4 : Int32).toNatClampNeg (-4 : Int32)) fun a503 =>
  zl (upd a503 (5 : Int32).toNatClampNeg (-4 : Int32)) fun a508 =>
  zl (upd a508 (6 : Int32).toNatClampNeg (-4 : Int32)) fun a514 =>
  zl (upd a514 (7 : Int32).toNatClampNeg (-4 : Int32)) fun a520 =>
  zl (upd a520 (8 : Int32).toNatClampNeg (-4 : Int32)) fun a526 =>
  zl (upd a526 (9 : Int32).toNatClampNeg (-4 : Int32)) fun a532 =>
  zl (upd a532 (10 : Int32).toNatClampNeg (-4 : Int32)) fun a538 =>
  zl (upd a538 (11 : Int32).toNatClampNeg (-4 : Int32)) fun a544 =>
  zl (upd a544 (12 : Int32).toNatClampNeg (-4 : Int32)) fun a550 =>
  zl (upd a550 (13 : Int32).toNatClampNeg (-4 : Int32)) fun a556 =>
  zl (upd a556 (14 : Int32).toNatClampNeg (-4 : Int32)) fun a562 =>
  zl (upd a562 (15 : Int32).toNatClampNeg (-4 : Int32)) fun a568 =>
  zl (upd (fun _ => (0 : Int32)) (0 : Int32).toNatClampNeg (-4 : Int32)) fun a632 =>
  zl (upd a632 (1 : Int32).toNatClampNeg (-4 : Int32)) fun a637 =>
  zl (upd a637 (2 : Int32).toNatClampNeg (-4 : Int32)) fun a642 =>
  zl (upd a642 (3 : Int32).toNatClampNeg (-4 : Int32)) fun a647 =>
  some ((0 : Int32), (0 : Int32), (0 : Int32), (0 : Int32), (0 : Int32), (0 : Int32), (0 : Int32), (0 : Int32), (0 : Int32), (0 : Int32), (0 : Int32), (fun _ => (0 : Int32)), a63, a269, a444, (fun _ => (0 : Int32)), (fun _ => (0 : Int32)), (fun _ => (0 : Int32)), a568, (fun _ => (0 : Int32)), (fun _ => (0 : Int32)), (fun _ => (0 : Int32)), (fun _ => (0 : Int32)), (fun _ => (0 : Int32)), (fun _ => (0 : Int64)), a647, (fun _ => (0 : Int32)), (fun _ => (0 : Int32)), (fun _ => (0 : Int32)))
set_option maxHeartbeats 4000000 in
set_option maxRecDepth 100000 in
theorem c_X12_init (l : Launch) (D : va_G) (cy : Nat → ClassId) (sz : Nat) (h : Nat)  {z : Int32 × Int32 × Int32 × Int32 × Int32 × Int32 × Int32 × Int32 × Int32 × Int32 × Int32 × (Nat → Int32) × (Nat → Int32) × (Nat → Int32) × (Nat → Int32) × (Nat → Int32) × (Nat → Int32) × (Nat → Int32) × (Nat → Int32) × (Nat → Int32) × (Nat → Int32) × (Nat → Int32) × (Nat → Int32) × (Nat → Int32) × (Nat → Int64) × (Nat → Int32) × (Nat → Int32) × (Nat → Int32) × (Nat → Int32)} (hf : f_X12_init = some z) : Met l yX12_init (.code yX12_init cX12_init 1 none :: tb) ({ frames := 1, cells := 18, slots := 2829, locals := 12 } : Room) (fun v U => kp D cy sz [.ref h] [(h, .inr (12, [.null, .int (0 : Int32), .int (0 : Int32), .int (0 : Int32), .int (0 : Int32), .int (0 : Int32), .int (0 : Int32), .int (0 : Int32), .int (0 : Int32), .null, .null, .null, .null, .int (0 : Int32), .null, .null, .null, .null, .null, .null, .int (0 : Int32), .null, .null, .null, .int (0 : Int32), .null, .null, .null, .null]))] v U ∧ True) (kqn D cy (fun u => [(h, .inr (12, [.ref (u 0), .int z.1, .int z.2.1, .int z.2.2.1, .int z.2.2.2.1, .int z.2.2.2.2.1, .int z.2.2.2.2.2.1, .int z.2.2.2.2.2.2.1, .int z.2.2.2.2.2.2.2.1, .ref (u 1), .ref (u 2), .ref (u 3), .ref (u 4), .int z.2.2.2.2.2.2.2.2.1, .ref (u 5), .ref (u 6), .ref (u 7), .ref (u 8), .ref (u 9), .ref (u 10), .int z.2.2.2.2.2.2.2.2.2.1, .ref (u 11), .ref (u 12), .ref (u 13), .int z.2.2.2.2.2.2.2.2.2.2.1, .ref (u 14), .ref (u 15), .ref (u 16), .ref (u 17)])), ((u 0), aI cy 200 z.2.2.2.2.2.2.2.2.2.2.2.1), ((u 1), aI cy 9 z.2.2.2.2.2.2.2.2.2.2.2.2.1), ((u 2), aI cy 34 z.2.2.2.2.2.2.2.2.2.2.2.2.2.1), ((u 3), aI cy 31 z.2.2.2.2.2.2.2.2.2.2.2.2.2.2.1), ((u 4), aI cy 31 z.2.2.2.2.2.2.2.2.2.2.2.2.2.2.2.1), ((u 5), aI cy 256 z.2.2.2.2.2.2.2.2.2.2.2.2.2.2.2.2.1), ((u 6), aZ cy 256 z.2.2.2.2.2.2.2.2.2.2.2.2.2.2.2.2.2.1), ((u 7), aI cy 16 z.2.2.2.2.2.2.2.2.2.2.2.2.2.2.2.2.2.2.1), ((u 8), aI cy 440 z.2.2.2.2.2.2.2.2.2.2.2.2.2.2.2.2.2.2.2.1), ((u 9), aI cy 440 z.2.2.2.2.2.2.2.2.2.2.2.2.2.2.2.2.2.2.2.2.1), ((u 10), aI cy 440 z.2.2.2.2.2.2.2.2.2.2.2.2.2.2.2.2.2.2.2.2.2.1), ((u 11), aI cy 12 z.2.2.2.2.2.2.2.2.2.2.2.2.2.2.2.2.2.2.2.2.2.2.1), ((u 12), aI cy 12 z.2.2.2.2.2.2.2.2.2.2.2.2.2.2.2.2.2.2.2.2.2.2.2.1), ((u 13), aJ cy 132 z.2.2.2.2.2.2.2.2.2.2.2.2.2.2.2.2.2.2.2.2.2.2.2.2.1), ((u 14), aI cy 4 z.2.2.2.2.2.2.2.2.2.2.2.2.2.2.2.2.2.2.2.2.2.2.2.2.2.1), ((u 15), aI cy 4 z.2.2.2.2.2.2.2.2.2.2.2.2.2.2.2.2.2.2.2.2.2.2.2.2.2.2.1), ((u 16), aI cy 256 z.2.2.2.2.2.2.2.2.2.2.2.2.2.2.2.2.2.2.2.2.2.2.2.2.2.2.2.1), ((u 17), aI cy 256 z.2.2.2.2.2.2.2.2.2.2.2.2.2.2.2.2.2.2.2.2.2.2.2.2.2.2.2.2)]) (va_A [(h, .inr (12, [.null, .int (0 : Int32), .int (0 : Int32), .int (0 : Int32), .int (0 : Int32), .int (0 : Int32), .int (0 : Int32), .int (0 : Int32), .int (0 : Int32), .null, .null, .null, .null, .int (0 : Int32), .null, .null, .null, .null, .null, .null, .int (0 : Int32), .null, .null, .null, .int (0 : Int32), .null, .null, .null, .null]))] sz)) 18 2829 (va_A [(h, .inr (12, [.null, .int (0 : Int32), .int (0 : Int32), .int (0 : Int32), .int (0 : Int32), .int (0 : Int32), .int (0 : Int32), .int (0 : Int32), .int (0 : Int32), .null, .null, .null, .null, .int (0 : Int32), .null, .null, .null, .null, .null, .null, .int (0 : Int32), .null, .null, .null, .int (0 : Int32), .null, .null, .null, .null]))] sz) := by
  refine met_ofN (y := yX12_init) (nL := 1) (av := [.ref h]) (ws := [(h, .inr (12, [.null, .int (0 : Int32), .int (0 : Int32), .int (0 : Int32), .int (0 : Int32), .int (0 : Int32), .int (0 : Int32), .int (0 : Int32), .int (0 : Int32), .null, .null, .null, .null, .int (0 : Int32), .null, .null, .null, .null, .null, .null, .int (0 : Int32), .null, .null, .null, .int (0 : Int32), .null, .null, .null, .null]))]) (Px := fun U => True) (fun A => kqn D cy (fun u => [(h, .inr (12, [.ref (u 0), .int z.1, .int z.2.1, .int z.2.2.1, .int z.2.2.2.1, .int z.2.2.2.2.1, .int z.2.2.2.2.2.1, .int z.2.2.2.2.2.2.1, .int z.2.2.2.2.2.2.2.1, .ref (u 1), .ref (u 2), .ref (u 3), .ref (u 4), .int z.2.2.2.2.2.2.2.2.1, .ref (u 5), .ref (u 6), .ref (u 7), .ref (u 8), .ref (u 9), .ref (u 10), .int z.2.2.2.2.2.2.2.2.2.1, .ref (u 11), .ref (u 12), .ref (u 13), .int z.2.2.2.2.2.2.2.2.2.2.1, .ref (u 14), .ref (u 15), .ref (u 16), .ref (u 17)])), ((u 0), aI cy 200 z.2.2.2.2.2.2.2.2.2.2.2.1), ((u 1), aI cy 9 z.2.2.2.2.2.2.2.2.2.2.2.2.1), ((u 2), aI cy 34 z.2.2.2.2.2.2.2.2.2.2.2.2.2.1), ((u 3), aI cy 31 z.2.2.2.2.2.2.2.2.2.2.2.2.2.2.1), ((u 4), aI cy 31 z.2.2.2.2.2.2.2.2.2.2.2.2.2.2.2.1), ((u 5), aI cy 256 z.2.2.2.2.2.2.2.2.2.2.2.2.2.2.2.2.1), ((u 6), aZ cy 256 z.2.2.2.2.2.2.2.2.2.2.2.2.2.2.2.2.2.1), ((u 7), aI cy 16 z.2.2.2.2.2.2.2.2.2.2.2.2.2.2.2.2.2.2.1), ((u 8), aI cy 440 z.2.2.2.2.2.2.2.2.2.2.2.2.2.2.2.2.2.2.2.1), ((u 9), aI cy 440 z.2.2.2.2.2.2.2.2.2.2.2.2.2.2.2.2.2.2.2.2.1), ((u 10), aI cy 440 z.2.2.2.2.2.2.2.2.2.2.2.2.2.2.2.2.2.2.2.2.2.1), ((u 11), aI cy 12 z.2.2.2.2.2.2.2.2.2.2.2.2.2.2.2.2.2.2.2.2.2.2.1), ((u 12), aI cy 12 z.2.2.2.2.2.2.2.2.2.2.2.2.2.2.2.2.2.2.2.2.2.2.2.1), ((u 13), aJ cy 132 z.2.2.2.2.2.2.2.2.2.2.2.2.2.2.2.2.2.2.2.2.2.2.2.2.1), ((u 14), aI cy 4 z.2.2.2.2.2.2.2.2.2.2.2.2.2.2.2.2.2.2.2.2.2.2.2.2.2.1), ((u 15), aI cy 4 z.2.2.2.2.2.2.2.2.2.2.2.2.2.2.2.2.2.2.2.2.2.2.2.2.2.2.1), ((u 16), aI cy 256 z.2.2.2.2.2.2.2.2.2.2.2.2.2.2.2.2.2.2.2.2.2.2.2.2.2.2.2.1), ((u 17), aI cy 256 z.2.2.2.2.2.2.2.2.2.2.2.2.2.2.2.2.2.2.2.2.2.2.2.2.2.2.2.2)]) A) (by decide +kernel) (Nat.le_of_ble_eq_true rfl) (fun p e s m below meth c A ls C hin ho hP hD hS hl => ?_)
  obtain ⟨hx, hb, hr, hml, hown, hts, hlk, hK, hA, hN⟩ := id C
  unfold f_X12_init at hf
  have hl : lv_has ls 1 [(0, .ref h)] := hl
  refine lv_aload_n hx hb dX12_init_0 rfl (lv_at hl 0 rfl) ?_
  refine W.objInit hx hb hown (hts _ ml_X12_1) (hts _ im_Obj_init) (hts _ cd_Obj_init) rfl (by rw [hml]; exact hl.1) rfl dX12_init_1 (Nat.le_of_ble_eq_true rfl) (Nat.le_of_ble_eq_true rfl) ?_
  refine W.eq (g2 := F0 m 4 ls []) rfl ?_
  refine lv_aload_n hx hb dX12_init_4 rfl (lv_at hl 0 rfl) ?_
  refine lv_sipush (v := 200) hx hb dX12_init_5 (by decide) ?_
  refine newI C hP hD hS (by decide) rfl (Nat.le_of_ble_eq_true rfl) (Nat.le_of_ble_eq_true rfl) (Nat.le_of_ble_eq_true rfl) dX12_init_8 (fun q8 H hP hD hS => ?_)
  have hP : va_P D vwCl [(h, .inr (12, [.null, .int (0 : Int32), .int (0 : Int32), .int (0 : Int32), .int (0 : Int32), .int (0 : Int32), .int (0 : Int32), .int (0 : Int32), .int (0 : Int32), .null, .null, .null, .null, .int (0 : Int32), .null, .null, .null, .null, .null, .null, .int (0 : Int32), .null, .null, .null, .int (0 : Int32), .null, .null, .null, .null])), (q8, aI cy 200 (fun _ => 0))] H := hP
  have hD : va_D A [(h, .inr (12, [.null, .int (0 : Int32), .int (0 : Int32), .int (0 : Int32), .int (0 : Int32), .int (0 : Int32), .int (0 : Int32), .int (0 : Int32), .int (0 : Int32), .null, .null, .null, .null, .int (0 : Int32), .null, .null, .null, .null, .null, .null, .int (0 : Int32), .null, .null, .null, .int (0 : Int32), .null, .null, .null, .null])), (q8, aI cy 200 (fun _ => 0))] := hD
  refine W.widen (k := 1) (n := 200) (Nat.le_refl _) (Nat.le_refl _) ?_
  refine va_putF (D := D) (ci := 12) (v := .ref q8) (ty := (.array .int)) (C := RX12) (T := TX12) (N := 29) hx hb hts ui_X12 tyX12 tyX12_ok nmX12 hown hK hP hD hS 0 rfl rfl 0 (by decide) (hts _ fl_X12_7) (fun _ h9 => h9) rfl hin rfl (by decide +kernel) rfl rfl (Nat.le_of_ble_eq_true rfl) dX12_init_10 (fun H locs hP hD hS => ?_)
  have hP : va_P D vwCl [(h, .inr (12, [.ref q8, .int (0 : Int32), .int (0 : Int32), .int (0 : Int32), .int (0 : Int32), .int (0 : Int32), .int (0 : Int32), .int (0 : Int32), .int (0 : Int32), .null, .null, .null, .null, .int (0 : Int32), .null, .null, .null, .null, .null, .null, .int (0 : Int32), .null, .null, .null, .int (0 : Int32), .null, .null, .null, .null])), (q8, aI cy 200 (fun _ => 0))] H := hP
  have hD : va_D A [(h, .inr (12, [.ref q8, .int (0 : Int32), .int (0 : Int32), .int (0 : Int32), .int (0 : Int32), .int (0 : Int32), .int (0 : Int32), .int (0 : Int32), .int (0 : Int32), .null, .null, .null, .null, .int (0 : Int32), .null, .null, .null, .null, .null, .null, .int (0 : Int32), .null, .null, .null, .int (0 : Int32), .null, .null, .null, .null])), (q8, aI cy 200 (fun _ => 0))] := hD
  refine lv_aload_n hx hb dX12_init_13 rfl (lv_at hl 0 rfl) ?_
  refine lv_bipush (v := 9) hx hb dX12_init_14 (by decide) ?_
  refine newI C hP hD hS (by decide) rfl (Nat.le_of_ble_eq_true rfl) (Nat.le_of_ble_eq_true rfl) (Nat.le_of_ble_eq_true rfl) dX12_init_16 (fun q16 H hP hD hS => ?_)
  have hP : va_P D vwCl [(h, .inr (12, [.ref q8, .int (0 : Int32), .int (0 : Int32), .int (0 : Int32), .int (0 : Int32), .int (0 : Int32), .int (0 : Int32), .int (0 : Int32), .int (0 : Int32), .null, .null, .null, .null, .int (0 : Int32), .null, .null, .null, .null, .null, .null, .int (0 : Int32), .null, .null, .null, .int (0 : Int32), .null, .null, .null, .null])), (q8, aI cy 200 (fun _ => 0)), (q16, aI cy 9 (fun _ => 0))] H := hP
  have hD : va_D A [(h, .inr (12, [.ref q8, .int (0 : Int32), .int (0 : Int32), .int (0 : Int32), .int (0 : Int32), .int (0 : Int32), .int (0 : Int32), .int (0 : Int32), .int (0 : Int32), .null, .null, .null, .null, .int (0 : Int32), .null, .null, .null, .null, .null, .null, .int (0 : Int32), .null, .null, .null, .int (0 : Int32), .null, .null, .null, .null])), (q8, aI cy 200 (fun _ => 0)), (q16, aI cy 9 (fun _ => 0))] := hD
  refine W.widen (k := 2) (n := 209) (Nat.le_refl _) (Nat.le_refl _) ?_
  refine lv_dup hx hb dX12_init_18 rfl ?_
  refine lv_iconst (v := 0) hx hb dX12_init_19 (by decide) ?_
  refine lv_iconst (v := 0) hx hb dX12_init_20 (by decide) ?_
  obtain ⟨a21, ea21⟩ : ∃ y : Nat → Int32, y = upd (fun _ => (0 : Int32)) (0 : Int32).toNatClampNeg (0 : Int32) := ⟨_, rfl⟩
  have hf := zl_of hf a21 ea21
  refine va_iast hx hb hK hP hD hS 2 1 rfl rfl (show vp_in (0 : Int32) 9 by unfold vp_in; decide) dX12_init_21 (fun H locs hP hD hS => ?_)
  rw [← ea21] at hP hD
  have hP : va_P D vwCl [(h, .inr (12, [.ref q8, .int (0 : Int32), .int (0 : Int32), .int (0 : Int32), .int (0 : Int32), .int (0 : Int32), .int (0 : Int32), .int (0 : Int32), .int (0 : Int32), .null, .null, .null, .null, .int (0 : Int32), .null, .null, .null, .null, .null, .null, .int (0 : Int32), .null, .null, .null, .int (0 : Int32), .null, .null, .null, .null])), (q8, aI cy 200 (fun _ => 0)), (q16, aI cy 9 a21)] H := hP
  have hD : va_D A [(h, .inr (12, [.ref q8, .int (0 : Int32), .int (0 : Int32), .int (0 : Int32), .int (0 : Int32), .int (0 : Int32), .int (0 : Int32), .int (0 : Int32), .int (0 : Int32), .null, .null, .null, .null, .int (0 : Int32), .null, .null, .null, .null, .null, .null, .int (0 : Int32), .null, .null, .null, .int (0 : Int32), .null, .null, .null, .null])), (q8, aI cy 200 (fun _ => 0)), (q16, aI cy 9 a21)] := hD
  refine lv_dup hx hb dX12_init_22 rfl ?_
  refine lv_iconst (v := 1) hx hb dX12_init_23 (by decide) ?_
  refine lv_iconst (v := 4) hx hb dX12_init_24 (by decide) ?_
  obtain ⟨a25, ea25⟩ : ∃ y : Nat → Int32, y = upd a21 (1 : Int32).toNatClampNeg (4 : Int32) := ⟨_, rfl⟩
  have hf := zl_of hf a25 ea25
  refine va_iast hx hb hK hP hD hS 2 1 rfl rfl (show vp_in (1 : Int32) 9 by unfold vp_in; decide) dX12_init_25 (fun H locs hP hD hS => ?_)
  rw [← ea25] at hP hD
  have hP : va_P D vwCl [(h, .inr (12, [.ref q8, .int (0 : Int32), .int (0 : Int32), .int (0 : Int32), .int (0 : Int32), .int (0 : Int32), .int (0 : Int32), .int (0 : Int32), .int (0 : Int32), .null, .null, .null, .null, .int (0 : Int32), .null, .null, .null, .null, .null, .null, .int (0 : Int32), .null, .null, .null, .int (0 : Int32), .null, .null, .null, .null])), (q8, aI cy 200 (fun _ => 0)), (q16, aI cy 9 a25)] H := hP
  have hD : va_D A [(h, .inr (12, [.ref q8, .int (0 : Int32), .int (0 : Int32), .int (0 : Int32), .int (0 : Int32), .int (0 : Int32), .int (0 : Int32), .int (0 : Int32), .int (0 : Int32), .null, .null, .null, .null, .int (0 : Int32), .null, .null, .null, .null, .null, .null, .int (0 : Int32), .null, .null, .null, .int (0 : Int32), .null, .null, .null, .null])), (q8, aI cy 200 (fun _ => 0)), (q16, aI cy 9 a25)] := hD
  refine lv_dup hx hb dX12_init_26 rfl ?_
  refine lv_iconst (v := 2) hx hb dX12_init_27 (by decide) ?_
  refine lv_bipush (v := 8) hx hb dX12_init_28 (by decide) ?_
  obtain ⟨a30, ea30⟩ : ∃ y : Nat → Int32, y = upd a25 (2 : Int32).toNatClampNeg (8 : Int32) := ⟨_, rfl⟩
  have hf := zl_of hf a30 ea30
  refine va_iast hx hb hK hP hD hS 2 1 rfl rfl (show vp_in (2 : Int32) 9 by unfold vp_in; decide) dX12_init_30 (fun H locs hP hD hS => ?_)
  rw [← ea30] at hP hD
  have hP : va_P D vwCl [(h, .inr (12, [.ref q8, .int (0 : Int32), .int (0 : Int32), .int (0 : Int32), .int (0 : Int32), .int (0 : Int32), .int (0 : Int32), .int (0 : Int32), .int (0 : Int32), .null, .null, .null, .null, .int (0 : Int32), .null, .null, .null, .null, .null, .null, .int (0 : Int32), .null, .null, .null, .int (0 : Int32), .null, .null, .null, .null])), (q8, aI cy 200 (fun _ => 0)), (q16, aI cy 9 a30)] H := hP
  have hD : va_D A [(h, .inr (12, [.ref q8, .int (0 : Int32), .int (0 : Int32), .int (0 : Int32), .int (0 : Int32), .int (0 : Int32), .int (0 : Int32), .int (0 : Int32), .int (0 : Int32), .null, .null, .null, .null, .int (0 : Int32), .null, .null, .null, .null, .null, .null, .int (0 : Int32), .null, .null, .null, .int (0 : Int32), .null, .null, .null, .null])), (q8, aI cy 200 (fun _ => 0)), (q16, aI cy 9 a30)] := hD
  refine lv_dup hx hb dX12_init_31 rfl ?_
  refine lv_iconst (v := 3) hx hb dX12_init_32 (by decide) ?_
  refine lv_bipush (v := 14) hx hb dX12_init_33 (by decide) ?_
  obtain ⟨a35, ea35⟩ : ∃ y : Nat → Int32, y = upd a30 (3 : Int32).toNatClampNeg (14 : Int32) := ⟨_, rfl⟩
  have hf := zl_of hf a35 ea35
  refine va_iast hx hb hK hP hD hS 2 1 rfl rfl (show vp_in (3 : Int32) 9 by unfold vp_in; decide) dX12_init_35 (fun H locs hP hD hS => ?_)
  rw [← ea35] at hP hD
  have hP : va_P D vwCl [(h, .inr (12, [.ref q8, .int (0 : Int32), .int (0 : Int32), .int (0 : Int32), .int (0 : Int32), .int (0 : Int32), .int (0 : Int32), .int (0 : Int32), .int (0 : Int32), .null, .null, .null, .null, .int (0 : Int32), .null, .null, .null, .null, .null, .null, .int (0 : Int32), .null, .null, .null, .int (0 : Int32), .null, .null, .null, .null])), (q8, aI cy 200 (fun _ => 0)), (q16, aI cy 9 a35)] H := hP
  have hD : va_D A [(h, .inr (12, [.ref q8, .int (0 : Int32), .int (0 : Int32), .int (0 : Int32), .int (0 : Int32), .int (0 : Int32), .int (0 : Int32), .int (0 : Int32), .int (0 : Int32), .null, .null, .null, .null, .int (0 : Int32), .null, .null, .null, .null, .null, .null, .int (0 : Int32), .null, .null, .null, .int (0 : Int32), .null, .null, .null, .null])), (q8, aI cy 200 (fun _ => 0)), (q16, aI cy 9 a35)] := hD
  refine lv_dup hx hb dX12_init_36 rfl ?_
  refine lv_iconst (v := 4) hx hb dX12_init_37 (by decide) ?_
  refine lv_bipush (v := 17) hx hb dX12_init_38 (by decide) ?_
  obtain ⟨a40, ea40⟩ : ∃ y : Nat → Int32, y = upd a35 (4 : Int32).toNatClampNeg (17 : Int32) := ⟨_, rfl⟩
  have hf := zl_of hf a40 ea40
  refine va_iast hx hb hK hP hD hS 2 1 rfl rfl (show vp_in (4 : Int32) 9 by unfold vp_in; decide) dX12_init_40 (fun H locs hP hD hS => ?_)
  rw [← ea40] at hP hD
  have hP : va_P D vwCl [(h, .inr (12, [.ref q8, .int (0 : Int32), .int (0 : Int32), .int (0 : Int32), .int (0 : Int32), .int (0 : Int32), .int (0 : Int32), .int (0 : Int32), .int (0 : Int32), .null, .null, .null, .null, .int (0 : Int32), .null, .null, .null, .null, .null, .null, .int (0 : Int32), .null, .null, .null, .int (0 : Int32), .null, .null, .null, .null])), (q8, aI cy 200 (fun _ => 0)), (q16, aI cy 9 a40)] H := hP
  have hD : va_D A [(h, .inr (12, [.ref q8, .int (0 : Int32), .int (0 : Int32), .int (0 : Int32), .int (0 : Int32), .int (0 : Int32), .int (0 : Int32), .int (0 : Int32), .int (0 : Int32), .null, .null, .null, .null, .int (0 : Int32), .null, .null, .null, .null, .null, .null, .int (0 : Int32), .null, .null, .null, .int (0 : Int32), .null, .null, .null, .null])), (q8, aI cy 200 (fun _ => 0)), (q16, aI cy 9 a40)] := hD
  refine lv_dup hx hb dX12_init_41 rfl ?_
  refine lv_iconst (v := 5) hx hb dX12_init_42 (by decide) ?_
  refine lv_bipush (v := 21) hx hb dX12_init_43 (by decide) ?_
  obtain ⟨a45, ea45⟩ : ∃ y : Nat → Int32, y = upd a40 (5 : Int32).toNatClampNeg (21 : Int32) := ⟨_, rfl⟩
  have hf := zl_of hf a45 ea45
  refine va_iast hx hb hK hP hD hS 2 1 rfl rfl (show vp_in (5 : Int32) 9 by unfold vp_in; decide) dX12_init_45 (fun H locs hP hD hS => ?_)
  rw [← ea45] at hP hD
  have hP : va_P D vwCl [(h, .inr (12, [.ref q8, .int (0 : Int32), .int (0 : Int32), .int (0 : Int32), .int (0 : Int32), .int (0 : Int32), .int (0 : Int32), .int (0 : Int32), .int (0 : Int32), .null, .null, .null, .null, .int (0 : Int32), .null, .null, .null, .null, .null, .null, .int (0 : Int32), .null, .null, .null, .int (0 : Int32), .null, .null, .null, .null])), (q8, aI cy 200 (fun _ => 0)), (q16, aI cy 9 a45)] H := hP
  have hD : va_D A [(h, .inr (12, [.ref q8, .int (0 : Int32), .int (0 : Int32), .int (0 : Int32), .int (0 : Int32), .int (0 : Int32), .int (0 : Int32), .int (0 : Int32), .int (0 : Int32), .null, .null, .null, .null, .int (0 : Int32), .null, .null, .null, .null, .null, .null, .int (0 : Int32), .null, .null, .null, .int (0 : Int32), .null, .null, .null, .null])), (q8, aI cy 200 (fun _ => 0)), (q16, aI cy 9 a45)] := hD
  refine lv_dup hx hb dX12_init_46 rfl ?_
  refine lv_bipush (v := 6) hx hb dX12_init_47 (by decide) ?_
  refine lv_bipush (v := 24) hx hb dX12_init_49 (by decide) ?_
  obtain ⟨a51, ea51⟩ : ∃ y : Nat → Int32, y = upd a45 (6 : Int32).toNatClampNeg (24 : Int32) := ⟨_, rfl⟩
  have hf := zl_of hf a51 ea51
  refine va_iast hx hb hK hP hD hS 2 1 rfl rfl (show vp_in (6 : Int32) 9 by unfold vp_in; decide) dX12_init_51 (fun H locs hP hD hS => ?_)
  rw [← ea51] at hP hD
  have hP : va_P D vwCl [(h, .inr (12, [.ref q8, .int (0 : Int32), .int (0 : Int32), .int (0 : Int32), .int (0 : Int32), .int (0 : Int32), .int (0 : Int32), .int (0 : Int32), .int (0 : Int32), .null, .null, .null, .null, .int (0 : Int32), .null, .null, .null, .null, .null, .null, .int (0 : Int32), .null, .null, .null, .int (0 : Int32), .null, .null, .null, .null])), (q8, aI cy 200 (fun _ => 0)), (q16, aI cy 9 a51)] H := hP
  have hD : va_D A [(h, .inr (12, [.ref q8, .int (0 : Int32), .int (0 : Int32), .int (0 : Int32), .int (0 : Int32), .int (0 : Int32), .int (0 : Int32), .int (0 : Int32), .int (0 : Int32), .null, .null, .null, .null, .int (0 : Int32), .null, .null, .null, .null, .null, .null, .int (0 : Int32), .null, .null, .null, .int (0 : Int32), .null, .null, .null, .null])), (q8, aI cy 200 (fun _ => 0)), (q16, aI cy 9 a51)] := hD
  refine lv_dup hx hb dX12_init_52 rfl ?_
  refine lv_bipush (v := 7) hx hb dX12_init_53 (by decide) ?_
  refine lv_bipush (v := 28) hx hb dX12_init_55 (by decide) ?_
  obtain ⟨a57, ea57⟩ : ∃ y : Nat → Int32, y = upd a51 (7 : Int32).toNatClampNeg (28 : Int32) := ⟨_, rfl⟩
  have hf := zl_of hf a57 ea57
  refine va_iast hx hb hK hP hD hS 2 1 rfl rfl (show vp_in (7 : Int32) 9 by unfold vp_in; decide) dX12_init_57 (fun H locs hP hD hS => ?_)
  rw [← ea57] at hP hD
  have hP : va_P D vwCl [(h, .inr (12, [.ref q8, .int (0 : Int32), .int (0 : Int32), .int (0 : Int32), .int (0 : Int32), .int (0 : Int32), .int (0 : Int32), .int (0 : Int32), .int (0 : Int32), .null, .null, .null, .null, .int (0 : Int32), .null, .null, .null, .null, .null, .null, .int (0 : Int32), .null, .null, .null, .int (0 : Int32), .null, .null, .null, .null])), (q8, aI cy 200 (fun _ => 0)), (q16, aI cy 9 a57)] H := hP
  have hD : va_D A [(h, .inr (12, [.ref q8, .int (0 : Int32), .int (0 : Int32), .int (0 : Int32), .int (0 : Int32), .int (0 : Int32), .int (0 : Int32), .int (0 : Int32), .int (0 : Int32), .null, .null, .null, .null, .int (0 : Int32), .null, .null, .null, .null, .null, .null, .int (0 : Int32), .null, .null, .null, .int (0 : Int32), .null, .null, .null, .null])), (q8, aI cy 200 (fun _ => 0)), (q16, aI cy 9 a57)] := hD
  refine lv_dup hx hb dX12_init_58 rfl ?_
  refine lv_bipush (v := 8) hx hb dX12_init_59 (by decide) ?_
  refine lv_bipush (v := 34) hx hb dX12_init_61 (by decide) ?_
  obtain ⟨a63, ea63⟩ : ∃ y : Nat → Int32, y = upd a57 (8 : Int32).toNatClampNeg (34 : Int32) := ⟨_, rfl⟩
  have hf := zl_of hf a63 ea63
  refine va_iast hx hb hK hP hD hS 2 1 rfl rfl (show vp_in (8 : Int32) 9 by unfold vp_in; decide) dX12_init_63 (fun H locs hP hD hS => ?_)
  rw [← ea63] at hP hD
  have hP : va_P D vwCl [(h, .inr (12, [.ref q8, .int (0 : Int32), .int (0 : Int32), .int (0 : Int32), .int (0 : Int32), .int (0 : Int32), .int (0 : Int32), .int (0 : Int32), .int (0 : Int32), .null, .null, .null, .null, .int (0 : Int32), .null, .null, .null, .null, .null, .null, .int (0 : Int32), .null, .null, .null, .int (0 : Int32), .null, .null, .null, .null])), (q8, aI cy 200 (fun _ => 0)), (q16, aI cy 9 a63)] H := hP
  have hD : va_D A [(h, .inr (12, [.ref q8, .int (0 : Int32), .int (0 : Int32), .int (0 : Int32), .int (0 : Int32), .int (0 : Int32), .int (0 : Int32), .int (0 : Int32), .int (0 : Int32), .null, .null, .null, .null, .int (0 : Int32), .null, .null, .null, .null, .null, .null, .int (0 : Int32), .null, .null, .null, .int (0 : Int32), .null, .null, .null, .null])), (q8, aI cy 200 (fun _ => 0)), (q16, aI cy 9 a63)] := hD
  refine va_putF (D := D) (ci := 12) (v := .ref q16) (ty := (.array .int)) (C := RX12) (T := TX12) (N := 29) hx hb hts ui_X12 tyX12 tyX12_ok nmX12 hown hK hP hD hS 0 rfl rfl 9 (by decide) (hts _ fl_X12_13) (fun _ h9 => h9) rfl hin rfl (by decide +kernel) rfl rfl (Nat.le_of_ble_eq_true rfl) dX12_init_64 (fun H locs hP hD hS => ?_)
  have hP : va_P D vwCl [(h, .inr (12, [.ref q8, .int (0 : Int32), .int (0 : Int32), .int (0 : Int32), .int (0 : Int32), .int (0 : Int32), .int (0 : Int32), .int (0 : Int32), .int (0 : Int32), .ref q16, .null, .null, .null, .int (0 : Int32), .null, .null, .null, .null, .null, .null, .int (0 : Int32), .null, .null, .null, .int (0 : Int32), .null, .null, .null, .null])), (q8, aI cy 200 (fun _ => 0)), (q16, aI cy 9 a63)] H := hP
  have hD : va_D A [(h, .inr (12, [.ref q8, .int (0 : Int32), .int (0 : Int32), .int (0 : Int32), .int (0 : Int32), .int (0 : Int32), .int (0 : Int32), .int (0 : Int32), .int (0 : Int32), .ref q16, .null, .null, .null, .int (0 : Int32), .null, .null, .null, .null, .null, .null, .int (0 : Int32), .null, .null, .null, .int (0 : Int32), .null, .null, .null, .null])), (q8, aI cy 200 (fun _ => 0)), (q16, aI cy 9 a63)] := hD
  refine lv_aload_n hx hb dX12_init_67 rfl (lv_at hl 0 rfl) ?_
  refine lv_bipush (v := 34) hx hb dX12_init_68 (by decide) ?_
  refine newI C hP hD hS (by decide) rfl (Nat.le_of_ble_eq_true rfl) (Nat.le_of_ble_eq_true rfl) (Nat.le_of_ble_eq_true rfl) dX12_init_70 (fun q70 H hP hD hS => ?_)
  have hP : va_P D vwCl [(h, .inr (12, [.ref q8, .int (0 : Int32), .int (0 : Int32), .int (0 : Int32), .int (0 : Int32), .int (0 : Int32), .int (0 : Int32), .int (0 : Int32), .int (0 : Int32), .ref q16, .null, .null, .null, .int (0 : Int32), .null, .null, .null, .null, .null, .null, .int (0 : Int32), .null, .null, .null, .int (0 : Int32), .null, .null, .null, .null])), (q8, aI cy 200 (fun _ => 0)), (q16, aI cy 9 a63), (q70, aI cy 34 (fun _ => 0))] H := hP
  have hD : va_D A [(h, .inr (12, [.ref q8, .int (0 : Int32), .int (0 : Int32), .int (0 : Int32), .int (0 : Int32), .int (0 : Int32), .int (0 : Int32), .int (0 : Int32), .int (0 : Int32), .ref q16, .null, .null, .null, .int (0 : Int32), .null, .null, .null, .null, .null, .null, .int (0 : Int32), .null, .null, .null, .int (0 : Int32), .null, .null, .null, .null])), (q8, aI cy 200 (fun _ => 0)), (q16, aI cy 9 a63), (q70, aI cy 34 (fun _ => 0))] := hD
  refine W.widen (k := 3) (n := 243) (Nat.le_refl _) (Nat.le_refl _) ?_
  refine lv_dup hx hb dX12_init_72 rfl ?_
  refine lv_iconst (v := 0) hx hb dX12_init_73 (by decide) ?_
  refine lv_bipush (v := 98) hx hb dX12_init_74 (by decide) ?_
  obtain ⟨a76, ea76⟩ : ∃ y : Nat → Int32, y = upd (fun _ => (0 : Int32)) (0 : Int32).toNatClampNeg (98 : Int32) := ⟨_, rfl⟩
  have hf := zl_of hf a76 ea76
  refine va_iast hx hb hK hP hD hS 3 1 rfl rfl (show vp_in (0 : Int32) 34 by unfold vp_in; decide) dX12_init_76 (fun H locs hP hD hS => ?_)
  rw [← ea76] at hP hD
  have hP : va_P D vwCl [(h, .inr (12, [.ref q8, .int (0 : Int32), .int (0 : Int32), .int (0 : Int32), .int (0 : Int32), .int (0 : Int32), .int (0 : Int32), .int (0 : Int32), .int (0 : Int32), .ref q16, .null, .null, .null, .int (0 : Int32), .null, .null, .null, .null, .null, .null, .int (0 : Int32), .null, .null, .null, .int (0 : Int32), .null, .null, .null, .null])), (q8, aI cy 200 (fun _ => 0)), (q16, aI cy 9 a63), (q70, aI cy 34 a76)] H := hP
  have hD : va_D A [(h, .inr (12, [.ref q8, .int (0 : Int32), .int (0 : Int32), .int (0 : Int32), .int (0 : Int32), .int (0 : Int32), .int (0 : Int32), .int (0 : Int32), .int (0 : Int32), .ref q16, .null, .null, .null, .int (0 : Int32), .null, .null, .null, .null, .null, .null, .int (0 : Int32), .null, .null, .null, .int (0 : Int32), .null, .null, .null, .null])), (q8, aI cy 200 (fun _ => 0)), (q16, aI cy 9 a63), (q70, aI cy 34 a76)] := hD
  refine lv_dup hx hb dX12_init_77 rfl ?_
  refine lv_iconst (v := 1) hx hb dX12_init_78 (by decide) ?_
  refine lv_bipush (v := 105) hx hb dX12_init_79 (by decide) ?_
  obtain ⟨a81, ea81⟩ : ∃ y : Nat → Int32, y = upd a76 (1 : Int32).toNatClampNeg (105 : Int32) := ⟨_, rfl⟩
  have hf := zl_of hf a81 ea81
  refine va_iast hx hb hK hP hD hS 3 1 rfl rfl (show vp_in (1 : Int32) 34 by unfold vp_in; decide) dX12_init_81 (fun H locs hP hD hS => ?_)
  rw [← ea81] at hP hD
  have hP : va_P D vwCl [(h, .inr (12, [.ref q8, .int (0 : Int32), .int (0 : Int32), .int (0 : Int32), .int (0 : Int32), .int (0 : Int32), .int (0 : Int32), .int (0 : Int32), .int (0 : Int32), .ref q16, .null, .null, .null, .int (0 : Int32), .null, .null, .null, .null, .null, .null, .int (0 : Int32), .null, .null, .null, .int (0 : Int32), .null, .null, .null, .null])), (q8, aI cy 200 (fun _ => 0)), (q16, aI cy 9 a63), (q70, aI cy 34 a81)] H := hP
  have hD : va_D A [(h, .inr (12, [.ref q8, .int (0 : Int32), .int (0 : Int32), .int (0 : Int32), .int (0 : Int32), .int (0 : Int32), .int (0 : Int32), .int (0 : Int32), .int (0 : Int32), .ref q16, .null, .null, .null, .int (0 : Int32), .null, .null, .null, .null, .null, .null, .int (0 : Int32), .null, .null, .null, .int (0 : Int32), .null, .null, .null, .null])), (q8, aI cy 200 (fun _ => 0)), (q16, aI cy 9 a63), (q70, aI cy 34 a81)] := hD
  refine lv_dup hx hb dX12_init_82 rfl ?_
  refine lv_iconst (v := 2) hx hb dX12_init_83 (by decide) ?_
  refine lv_bipush (v := 116) hx hb dX12_init_84 (by decide) ?_
  obtain ⟨a86, ea86⟩ : ∃ y : Nat → Int32, y = upd a81 (2 : Int32).toNatClampNeg (116 : Int32) := ⟨_, rfl⟩
  have hf := zl_of hf a86 ea86
  refine va_iast hx hb hK hP hD hS 3 1 rfl rfl (show vp_in (2 : Int32) 34 by unfold vp_in; decide) dX12_init_86 (fun H locs hP hD hS => ?_)
  rw [← ea86] at hP hD
  have hP : va_P D vwCl [(h, .inr (12, [.ref q8, .int (0 : Int32), .int (0 : Int32), .int (0 : Int32), .int (0 : Int32), .int (0 : Int32), .int (0 : Int32), .int (0 : Int32), .int (0 : Int32), .ref q16, .null, .null, .null, .int (0 : Int32), .null, .null, .null, .null, .null, .null, .int (0 : Int32), .null, .null, .null, .int (0 : Int32), .null, .null, .null, .null])), (q8, aI cy 200 (fun _ => 0)), (q16, aI cy 9 a63), (q70, aI cy 34 a86)] H := hP
  have hD : va_D A [(h, .inr (12, [.ref q8, .int (0 : Int32), .int (0 : Int32), .int (0 : Int32), .int (0 : Int32), .int (0 : Int32), .int (0 : Int32), .int (0 : Int32), .int (0 : Int32), .ref q16, .null, .null, .null, .int (0 : Int32), .null, .null, .null, .null, .null, .null, .int (0 : Int32), .null, .null, .null, .int (0 : Int32), .null, .null, .null, .null])), (q8, aI cy 200 (fun _ => 0)), (q16, aI cy 9 a63), (q70, aI cy 34 a86)] := hD
  refine lv_dup hx hb dX12_init_87 rfl ?_
  refine lv_iconst (v := 3) hx hb dX12_init_88 (by decide) ?_
  refine lv_bipush (v := 115) hx hb dX12_init_89 (by decide) ?_
  obtain ⟨a91, ea91⟩ : ∃ y : Nat → Int32, y = upd a86 (3 : Int32).toNatClampNeg (115 : Int32) := ⟨_, rfl⟩
  have hf := zl_of hf a91 ea91
  refine va_iast hx hb hK hP hD hS 3 1 rfl rfl (show vp_in (3 : Int32) 34 by unfold vp_in; decide) dX12_init_91 (fun H locs hP hD hS => ?_)
  rw [← ea91] at hP hD
  have hP : va_P D vwCl [(h, .inr (12, [.ref q8, .int (0 : Int32), .int (0 : Int32), .int (0 : Int32), .int (0 : Int32), .int (0 : Int32), .int (0 : Int32), .int (0 : Int32), .int (0 : Int32), .ref q16, .null, .null, .null, .int (0 : Int32), .null, .null, .null, .null, .null, .null, .int (0 : Int32), .null, .null, .null, .int (0 : Int32), .null, .null, .null, .null])), (q8, aI cy 200 (fun _ => 0)), (q16, aI cy 9 a63), (q70, aI cy 34 a91)] H := hP
  have hD : va_D A [(h, .inr (12, [.ref q8, .int (0 : Int32), .int (0 : Int32), .int (0 : Int32), .int (0 : Int32), .int (0 : Int32), .int (0 : Int32), .int (0 : Int32), .int (0 : Int32), .ref q16, .null, .null, .null, .int (0 : Int32), .null, .null, .null, .null, .null, .null, .int (0 : Int32), .null, .null, .null, .int (0 : Int32), .null, .null, .null, .null])), (q8, aI cy 200 (fun _ => 0)), (q16, aI cy 9 a63), (q70, aI cy 34 a91)] := hD
  refine lv_dup hx hb dX12_init_92 rfl ?_
  refine lv_iconst (v := 4) hx hb dX12_init_93 (by decide) ?_
  refine lv_bipush (v := 117) hx hb dX12_init_94 (by decide) ?_
  obtain ⟨a96, ea96⟩ : ∃ y : Nat → Int32, y = upd a91 (4 : Int32).toNatClampNeg (117 : Int32) := ⟨_, rfl⟩
  have hf := zl_of hf a96 ea96
  refine va_iast hx hb hK hP hD hS 3 1 rfl rfl (show vp_in (4 : Int32) 34 by unfold vp_in; decide) dX12_init_96 (fun H locs hP hD hS => ?_)
  rw [← ea96] at hP hD
  have hP : va_P D vwCl [(h, .inr (12, [.ref q8, .int (0 : Int32), .int (0 : Int32), .int (0 : Int32), .int (0 : Int32), .int (0 : Int32), .int (0 : Int32), .int (0 : Int32), .int (0 : Int32), .ref q16, .null, .null, .null, .int (0 : Int32), .null, .null, .null, .null, .null, .null, .int (0 : Int32), .null, .null, .null, .int (0 : Int32), .null, .null, .null, .null])), (q8, aI cy 200 (fun _ => 0)), (q16, aI cy 9 a63), (q70, aI cy 34 a96)] H := hP
  have hD : va_D A [(h, .inr (12, [.ref q8, .int (0 : Int32), .int (0 : Int32), .int (0 : Int32), .int (0 : Int32), .int (0 : Int32), .int (0 : Int32), .int (0 : Int32), .int (0 : Int32), .ref q16, .null, .null, .null, .int (0 : Int32), .null, .null, .null, .null, .null, .null, .int (0 : Int32), .null, .null, .null, .int (0 : Int32), .null, .null, .null, .null])), (q8, aI cy 200 (fun _ => 0)), (q16, aI cy 9 a63), (q70, aI cy 34 a96)] := hD
  refine lv_dup hx hb dX12_init_97 rfl ?_
  refine lv_iconst (v := 5) hx hb dX12_init_98 (by decide) ?_
  refine lv_bipush (v := 110) hx hb dX12_init_99 (by decide) ?_
  obtain ⟨a101, ea101⟩ : ∃ y : Nat → Int32, y = upd a96 (5 : Int32).toNatClampNeg (110 : Int32) := ⟨_, rfl⟩
  have hf := zl_of hf a101 ea101
  refine va_iast hx hb hK hP hD hS 3 1 rfl rfl (show vp_in (5 : Int32) 34 by unfold vp_in; decide) dX12_init_101 (fun H locs hP hD hS => ?_)
  rw [← ea101] at hP hD
  have hP : va_P D vwCl [(h, .inr (12, [.ref q8, .int (0 : Int32), .int (0 : Int32), .int (0 : Int32), .int (0 : Int32), .int (0 : Int32), .int (0 : Int32), .int (0 : Int32), .int (0 : Int32), .ref q16, .null, .null, .null, .int (0 : Int32), .null, .null, .null, .null, .null, .null, .int (0 : Int32), .null, .null, .null, .int (0 : Int32), .null, .null, .null, .null])), (q8, aI cy 200 (fun _ => 0)), (q16, aI cy 9 a63), (q70, aI cy 34 a101)] H := hP
  have hD : va_D A [(h, .inr (12, [.ref q8, .int (0 : Int32), .int (0 : Int32), .int (0 : Int32), .int (0 : Int32), .int (0 : Int32), .int (0 : Int32), .int (0 : Int32), .int (0 : Int32), .ref q16, .null, .null, .null, .int (0 : Int32), .null, .null, .null, .null, .null, .null, .int (0 : Int32), .null, .null, .null, .int (0 : Int32), .null, .null, .null, .null])), (q8, aI cy 200 (fun _ => 0)), (q16, aI cy 9 a63), (q70, aI cy 34 a101)] := hD
  refine lv_dup hx hb dX12_init_102 rfl ?_
  refine lv_bipush (v := 6) hx hb dX12_init_103 (by decide) ?_
  refine lv_bipush (v := 105) hx hb dX12_init_105 (by decide) ?_
  obtain ⟨a107, ea107⟩ : ∃ y : Nat → Int32, y = upd a101 (6 : Int32).toNatClampNeg (105 : Int32) := ⟨_, rfl⟩
  have hf := zl_of hf a107 ea107
  refine va_iast hx hb hK hP hD hS 3 1 rfl rfl (show vp_in (6 : Int32) 34 by unfold vp_in; decide) dX12_init_107 (fun H locs hP hD hS => ?_)
  rw [← ea107] at hP hD
  have hP : va_P D vwCl [(h, .inr (12, [.ref q8, .int (0 : Int32), .int (0 : Int32), .int (0 : Int32), .int (0 : Int32), .int (0 : Int32), .int (0 : Int32), .int (0 : Int32), .int (0 : Int32), .ref q16, .null, .null, .null, .int (0 : Int32), .null, .null, .null, .null, .null, .null, .int (0 : Int32), .null, .null, .null, .int (0 : Int32), .null, .null, .null, .null])), (q8, aI cy 200 (fun _ => 0)), (q16, aI cy 9 a63), (q70, aI cy 34 a107)] H := hP
  have hD : va_D A [(h, .inr (12, [.ref q8, .int (0 : Int32), .int (0 : Int32), .int (0 : Int32), .int (0 : Int32), .int (0 : Int32), .int (0 : Int32), .int (0 : Int32), .int (0 : Int32), .ref q16, .null, .null, .null, .int (0 : Int32), .null, .null, .null, .null, .null, .null, .int (0 : Int32), .null, .null, .null, .int (0 : Int32), .null, .null, .null, .null])), (q8, aI cy 200 (fun _ => 0)), (q16, aI cy 9 a63), (q70, aI cy 34 a107)] := hD
  refine lv_dup hx hb dX12_init_108 rfl ?_
  refine lv_bipush (v := 7) hx hb dX12_init_109 (by decide) ?_
  refine lv_bipush (v := 116) hx hb dX12_init_111 (by decide) ?_
  obtain ⟨a113, ea113⟩ : ∃ y : Nat → Int32, y = upd a107 (7 : Int32).toNatClampNeg (116 : Int32) := ⟨_, rfl⟩
  have hf := zl_of hf a113 ea113
  refine va_iast hx hb hK hP hD hS 3 1 rfl rfl (show vp_in (7 : Int32) 34 by unfold vp_in; decide) dX12_init_113 (fun H locs hP hD hS => ?_)
  rw [← ea113] at hP hD
  have hP : va_P D vwCl [(h, .inr (12, [.ref q8, .int (0 : Int32), .int (0 : Int32), .int (0 : Int32), .int (0 : Int32), .int (0 : Int32), .int (0 : Int32), .int (0 : Int32), .int (0 : Int32), .ref q16, .null, .null, .null, .int (0 : Int32), .null, .null, .null, .null, .null, .null, .int (0 : Int32), .null, .null, .null, .int (0 : Int32), .null, .null, .null, .null])), (q8, aI cy 200 (fun _ => 0)), (q16, aI cy 9 a63), (q70, aI cy 34 a113)] H := hP
  have hD : va_D A [(h, .inr (12, [.ref q8, .int (0 : Int32), .int (0 : Int32), .int (0 : Int32), .int (0 : Int32), .int (0 : Int32), .int (0 : Int32), .int (0 : Int32), .int (0 : Int32), .ref q16, .null, .null, .null, .int (0 : Int32), .null, .null, .null, .null, .null, .null, .int (0 : Int32), .null, .null, .null, .int (0 : Int32), .null, .null, .null, .null])), (q8, aI cy 200 (fun _ => 0)), (q16, aI cy 9 a63), (q70, aI cy 34 a113)] := hD
  refine lv_dup hx hb dX12_init_114 rfl ?_
  refine lv_bipush (v := 8) hx hb dX12_init_115 (by decide) ?_
  refine lv_bipush (v := 111) hx hb dX12_init_117 (by decide) ?_
  obtain ⟨a119, ea119⟩ : ∃ y : Nat → Int32, y = upd a113 (8 : Int32).toNatClampNeg (111 : Int32) := ⟨_, rfl⟩
  have hf := zl_of hf a119 ea119
  refine va_iast hx hb hK hP hD hS 3 1 rfl rfl (show vp_in (8 : Int32) 34 by unfold vp_in; decide) dX12_init_119 (fun H locs hP hD hS => ?_)
  rw [← ea119] at hP hD
  have hP : va_P D vwCl [(h, .inr (12, [.ref q8, .int (0 : Int32), .int (0 : Int32), .int (0 : Int32), .int (0 : Int32), .int (0 : Int32), .int (0 : Int32), .int (0 : Int32), .int (0 : Int32), .ref q16, .null, .null, .null, .int (0 : Int32), .null, .null, .null, .null, .null, .null, .int (0 : Int32), .null, .null, .null, .int (0 : Int32), .null, .null, .null, .null])), (q8, aI cy 200 (fun _ => 0)), (q16, aI cy 9 a63), (q70, aI cy 34 a119)] H := hP
  have hD : va_D A [(h, .inr (12, [.ref q8, .int (0 : Int32), .int (0 : Int32), .int (0 : Int32), .int (0 : Int32), .int (0 : Int32), .int (0 : Int32), .int (0 : Int32), .int (0 : Int32), .ref q16, .null, .null, .null, .int (0 : Int32), .null, .null, .null, .null, .null, .null, .int (0 : Int32), .null, .null, .null, .int (0 : Int32), .null, .null, .null, .null])), (q8, aI cy 200 (fun _ => 0)), (q16, aI cy 9 a63), (q70, aI cy 34 a119)] := hD
  refine lv_dup hx hb dX12_init_120 rfl ?_
  refine lv_bipush (v := 9) hx hb dX12_init_121 (by decide) ?_
  refine lv_bipush (v := 102) hx hb dX12_init_123 (by decide) ?_
  obtain ⟨a125, ea125⟩ : ∃ y : Nat → Int32, y = upd a119 (9 : Int32).toNatClampNeg (102 : Int32) := ⟨_, rfl⟩
  have hf := zl_of hf a125 ea125
  refine va_iast hx hb hK hP hD hS 3 1 rfl rfl (show vp_in (9 : Int32) 34 by unfold vp_in; decide) dX12_init_125 (fun H locs hP hD hS => ?_)
  rw [← ea125] at hP hD
  have hP : va_P D vwCl [(h, .inr (12, [.ref q8, .int (0 : Int32), .int (0 : Int32), .int (0 : Int32), .int (0 : Int32), .int (0 : Int32), .int (0 : Int32), .int (0 : Int32), .int (0 : Int32), .ref q16, .null, .null, .null, .int (0 : Int32), .null, .null, .null, .null, .null, .null, .int (0 : Int32), .null, .null, .null, .int (0 : Int32), .null, .null, .null, .null])), (q8, aI cy 200 (fun _ => 0)), (q16, aI cy 9 a63), (q70, aI cy 34 a125)] H := hP
  have hD : va_D A [(h, .inr (12, [.ref q8, .int (0 : Int32), .int (0 : Int32), .int (0 : Int32), .int (0 : Int32), .int (0 : Int32), .int (0 : Int32), .int (0 : Int32), .int (0 : Int32), .ref q16, .null, .null, .null, .int (0 : Int32), .null, .null, .null, .null, .null, .null, .int (0 : Int32), .null, .null, .null, .int (0 : Int32), .null, .null, .null, .null])), (q8, aI cy 200 (fun _ => 0)), (q16, aI cy 9 a63), (q70, aI cy 34 a125)] := hD
  refine lv_dup hx hb dX12_init_126 rfl ?_
  refine lv_bipush (v := 10) hx hb dX12_init_127 (by decide) ?_
  refine lv_bipush (v := 102) hx hb dX12_init_129 (by decide) ?_
  obtain ⟨a131, ea131⟩ : ∃ y : Nat → Int32, y = upd a125 (10 : Int32).toNatClampNeg (102 : Int32) := ⟨_, rfl⟩
  have hf := zl_of hf a131 ea131
  refine va_iast hx hb hK hP hD hS 3 1 rfl rfl (show vp_in (10 : Int32) 34 by unfold vp_in; decide) dX12_init_131 (fun H locs hP hD hS => ?_)
  rw [← ea131] at hP hD
  have hP : va_P D vwCl [(h, .inr (12, [.ref q8, .int (0 : Int32), .int (0 : Int32), .int (0 : Int32), .int (0 : Int32), .int (0 : Int32), .int (0 : Int32), .int (0 : Int32), .int (0 : Int32), .ref q16, .null, .null, .null, .int (0 : Int32), .null, .null, .null, .null, .null, .null, .int (0 : Int32), .null, .null, .null, .int (0 : Int32), .null, .null, .null, .null])), (q8, aI cy 200 (fun _ => 0)), (q16, aI cy 9 a63), (q70, aI cy 34 a131)] H := hP
  have hD : va_D A [(h, .inr (12, [.ref q8, .int (0 : Int32), .int (0 : Int32), .int (0 : Int32), .int (0 : Int32), .int (0 : Int32), .int (0 : Int32), .int (0 : Int32), .int (0 : Int32), .ref q16, .null, .null, .null, .int (0 : Int32), .null, .null, .null, .null, .null, .null, .int (0 : Int32), .null, .null, .null, .int (0 : Int32), .null, .null, .null, .null])), (q8, aI cy 200 (fun _ => 0)), (q16, aI cy 9 a63), (q70, aI cy 34 a131)] := hD
  refine lv_dup hx hb dX12_init_132 rfl ?_
  refine lv_bipush (v := 11) hx hb dX12_init_133 (by decide) ?_
  refine lv_bipush (v := 115) hx hb dX12_init_135 (by decide) ?_
  obtain ⟨a137, ea137⟩ : ∃ y : Nat → Int32, y = upd a131 (11 : Int32).toNatClampNeg (115 : Int32) := ⟨_, rfl⟩
  have hf := zl_of hf a137 ea137
  refine va_iast hx hb hK hP hD hS 3 1 rfl rfl (show vp_in (11 : Int32) 34 by unfold vp_in; decide) dX12_init_137 (fun H locs hP hD hS => ?_)
  rw [← ea137] at hP hD
  have hP : va_P D vwCl [(h, .inr (12, [.ref q8, .int (0 : Int32), .int (0 : Int32), .int (0 : Int32), .int (0 : Int32), .int (0 : Int32), .int (0 : Int32), .int (0 : Int32), .int (0 : Int32), .ref q16, .null, .null, .null, .int (0 : Int32), .null, .null, .null, .null, .null, .null, .int (0 : Int32), .null, .null, .null, .int (0 : Int32), .null, .null, .null, .null])), (q8, aI cy 200 (fun _ => 0)), (q16, aI cy 9 a63), (q70, aI cy 34 a137)] H := hP
  have hD : va_D A [(h, .inr (12, [.ref q8, .int (0 : Int32), .int (0 : Int32), .int (0 : Int32), .int (0 : Int32), .int (0 : Int32), .int (0 : Int32), .int (0 : Int32), .int (0 : Int32), .ref q16, .null, .null, .null, .int (0 : Int32), .null, .null, .null, .null, .null, .null, .int (0 : Int32), .null, .null, .null, .int (0 : Int32), .null, .null, .null, .null])), (q8, aI cy 200 (fun _ => 0)), (q16, aI cy 9 a63), (q70, aI cy 34 a137)] := hD
  refine lv_dup hx hb dX12_init_138 rfl ?_
  refine lv_bipush (v := 12) hx hb dX12_init_139 (by decide) ?_
  refine lv_bipush (v := 101) hx hb dX12_init_141 (by decide) ?_
  obtain ⟨a143, ea143⟩ : ∃ y : Nat → Int32, y = upd a137 (12 : Int32).toNatClampNeg (101 : Int32) := ⟨_, rfl⟩
  have hf := zl_of hf a143 ea143
  refine va_iast hx hb hK hP hD hS 3 1 rfl rfl (show vp_in (12 : Int32) 34 by unfold vp_in; decide) dX12_init_143 (fun H locs hP hD hS => ?_)
  rw [← ea143] at hP hD
  have hP : va_P D vwCl [(h, .inr (12, [.ref q8, .int (0 : Int32), .int (0 : Int32), .int (0 : Int32), .int (0 : Int32), .int (0 : Int32), .int (0 : Int32), .int (0 : Int32), .int (0 : Int32), .ref q16, .null, .null, .null, .int (0 : Int32), .null, .null, .null, .null, .null, .null, .int (0 : Int32), .null, .null, .null, .int (0 : Int32), .null, .null, .null, .null])), (q8, aI cy 200 (fun _ => 0)), (q16, aI cy 9 a63), (q70, aI cy 34 a143)] H := hP
  have hD : va_D A [(h, .inr (12, [.ref q8, .int (0 : Int32), .int (0 : Int32), .int (0 : Int32), .int (0 : Int32), .int (0 : Int32), .int (0 : Int32), .int (0 : Int32), .int (0 : Int32), .ref q16, .null, .null, .null, .int (0 : Int32), .null, .null, .null, .null, .null, .null, .int (0 : Int32), .null, .null, .null, .int (0 : Int32), .null, .null, .null, .null])), (q8, aI cy 200 (fun _ => 0)), (q16, aI cy 9 a63), (q70, aI cy 34 a143)] := hD
  refine lv_dup hx hb dX12_init_144 rfl ?_
  refine lv_bipush (v := 13) hx hb dX12_init_145 (by decide) ?_
  refine lv_bipush (v := 116) hx hb dX12_init_147 (by decide) ?_
  obtain ⟨a149, ea149⟩ : ∃ y : Nat → Int32, y = upd a143 (13 : Int32).toNatClampNeg (116 : Int32) := ⟨_, rfl⟩
  have hf := zl_of hf a149 ea149
  refine va_iast hx hb hK hP hD hS 3 1 rfl rfl (show vp_in (13 : Int32) 34 by unfold vp_in; decide) dX12_init_149 (fun H locs hP hD hS => ?_)
  rw [← ea149] at hP hD
  have hP : va_P D vwCl [(h, .inr (12, [.ref q8, .int (0 : Int32), .int (0 : Int32), .int (0 : Int32), .int (0 : Int32), .int (0 : Int32), .int (0 : Int32), .int (0 : Int32), .int (0 : Int32), .ref q16, .null, .null, .null, .int (0 : Int32), .null, .null, .null, .null, .null, .null, .int (0 : Int32), .null, .null, .null, .int (0 : Int32), .null, .null, .null, .null])), (q8, aI cy 200 (fun _ => 0)), (q16, aI cy 9 a63), (q70, aI cy 34 a149)] H := hP
  have hD : va_D A [(h, .inr (12, [.ref q8, .int (0 : Int32), .int (0 : Int32), .int (0 : Int32), .int (0 : Int32), .int (0 : Int32), .int (0 : Int32), .int (0 : Int32), .int (0 : Int32), .ref q16, .null, .null, .null, .int (0 : Int32), .null, .null, .null, .null, .null, .null, .int (0 : Int32), .null, .null, .null, .int (0 : Int32), .null, .null, .null, .null])), (q8, aI cy 200 (fun _ => 0)), (q16, aI cy 9 a63), (q70, aI cy 34 a149)] := hD
  refine lv_dup hx hb dX12_init_150 rfl ?_
  refine lv_bipush (v := 14) hx hb dX12_init_151 (by decide) ?_
  refine lv_bipush (v := 116) hx hb dX12_init_153 (by decide) ?_
  obtain ⟨a155, ea155⟩ : ∃ y : Nat → Int32, y = upd a149 (14 : Int32).toNatClampNeg (116 : Int32) := ⟨_, rfl⟩
  have hf := zl_of hf a155 ea155
  refine va_iast hx hb hK hP hD hS 3 1 rfl rfl (show vp_in (14 : Int32) 34 by unfold vp_in; decide) dX12_init_155 (fun H locs hP hD hS => ?_)
  rw [← ea155] at hP hD
  have hP : va_P D vwCl [(h, .inr (12, [.ref q8, .int (0 : Int32), .int (0 : Int32), .int (0 : Int32), .int (0 : Int32), .int (0 : Int32), .int (0 : Int32), .int (0 : Int32), .int (0 : Int32), .ref q16, .null, .null, .null, .int (0 : Int32), .null, .null, .null, .null, .null, .null, .int (0 : Int32), .null, .null, .null, .int (0 : Int32), .null, .null, .null, .null])), (q8, aI cy 200 (fun _ => 0)), (q16, aI cy 9 a63), (q70, aI cy 34 a155)] H := hP
  have hD : va_D A [(h, .inr (12, [.ref q8, .int (0 : Int32), .int (0 : Int32), .int (0 : Int32), .int (0 : Int32), .int (0 : Int32), .int (0 : Int32), .int (0 : Int32), .int (0 : Int32), .ref q16, .null, .null, .null, .int (0 : Int32), .null, .null, .null, .null, .null, .null, .int (0 : Int32), .null, .null, .null, .int (0 : Int32), .null, .null, .null, .null])), (q8, aI cy 200 (fun _ => 0)), (q16, aI cy 9 a63), (q70, aI cy 34 a155)] := hD
  refine lv_dup hx hb dX12_init_156 rfl ?_
  refine lv_bipush (v := 15) hx hb dX12_init_157 (by decide) ?_
  refine lv_bipush (v := 111) hx hb dX12_init_159 (by decide) ?_
  obtain ⟨a161, ea161⟩ : ∃ y : Nat → Int32, y = upd a155 (15 : Int32).toNatClampNeg (111 : Int32) := ⟨_, rfl⟩
  have hf := zl_of hf a161 ea161
  refine va_iast hx hb hK hP hD hS 3 1 rfl rfl (show vp_in (15 : Int32) 34 by unfold vp_in; decide) dX12_init_161 (fun H locs hP hD hS => ?_)
  rw [← ea161] at hP hD
  have hP : va_P D vwCl [(h, .inr (12, [.ref q8, .int (0 : Int32), .int (0 : Int32), .int (0 : Int32), .int (0 : Int32), .int (0 : Int32), .int (0 : Int32), .int (0 : Int32), .int (0 : Int32), .ref q16, .null, .null, .null, .int (0 : Int32), .null, .null, .null, .null, .null, .null, .int (0 : Int32), .null, .null, .null, .int (0 : Int32), .null, .null, .null, .null])), (q8, aI cy 200 (fun _ => 0)), (q16, aI cy 9 a63), (q70, aI cy 34 a161)] H := hP
  have hD : va_D A [(h, .inr (12, [.ref q8, .int (0 : Int32), .int (0 : Int32), .int (0 : Int32), .int (0 : Int32), .int (0 : Int32), .int (0 : Int32), .int (0 : Int32), .int (0 : Int32), .ref q16, .null, .null, .null, .int (0 : Int32), .null, .null, .null, .null, .null, .null, .int (0 : Int32), .null, .null, .null, .int (0 : Int32), .null, .null, .null, .null])), (q8, aI cy 200 (fun _ => 0)), (q16, aI cy 9 a63), (q70, aI cy 34 a161)] := hD
  refine lv_dup hx hb dX12_init_162 rfl ?_
  refine lv_bipush (v := 16) hx hb dX12_init_163 (by decide) ?_
  refine lv_bipush (v := 112) hx hb dX12_init_165 (by decide) ?_
  obtain ⟨a167, ea167⟩ : ∃ y : Nat → Int32, y = upd a161 (16 : Int32).toNatClampNeg (112 : Int32) := ⟨_, rfl⟩
  have hf := zl_of hf a167 ea167
  refine va_iast hx hb hK hP hD hS 3 1 rfl rfl (show vp_in (16 : Int32) 34 by unfold vp_in; decide) dX12_init_167 (fun H locs hP hD hS => ?_)
  rw [← ea167] at hP hD
  have hP : va_P D vwCl [(h, .inr (12, [.ref q8, .int (0 : Int32), .int (0 : Int32), .int (0 : Int32), .int (0 : Int32), .int (0 : Int32), .int (0 : Int32), .int (0 : Int32), .int (0 : Int32), .ref q16, .null, .null, .null, .int (0 : Int32), .null, .null, .null, .null, .null, .null, .int (0 : Int32), .null, .null, .null, .int (0 : Int32), .null, .null, .null, .null])), (q8, aI cy 200 (fun _ => 0)), (q16, aI cy 9 a63), (q70, aI cy 34 a167)] H := hP
  have hD : va_D A [(h, .inr (12, [.ref q8, .int (0 : Int32), .int (0 : Int32), .int (0 : Int32), .int (0 : Int32), .int (0 : Int32), .int (0 : Int32), .int (0 : Int32), .int (0 : Int32), .ref q16, .null, .null, .null, .int (0 : Int32), .null, .null, .null, .null, .null, .null, .int (0 : Int32), .null, .null, .null, .int (0 : Int32), .null, .null, .null, .null])), (q8, aI cy 200 (fun _ => 0)), (q16, aI cy 9 a63), (q70, aI cy 34 a167)] := hD
  refine lv_dup hx hb dX12_init_168 rfl ?_
  refine lv_bipush (v := 17) hx hb dX12_init_169 (by decide) ?_
  refine lv_bipush (v := 108) hx hb dX12_init_171 (by decide) ?_
  obtain ⟨a173, ea173⟩ : ∃ y : Nat → Int32, y = upd a167 (17 : Int32).toNatClampNeg (108 : Int32) := ⟨_, rfl⟩
  have hf := zl_of hf a173 ea173
  refine va_iast hx hb hK hP hD hS 3 1 rfl rfl (show vp_in (17 : Int32) 34 by unfold vp_in; decide) dX12_init_173 (fun H locs hP hD hS => ?_)
  rw [← ea173] at hP hD
  have hP : va_P D vwCl [(h, .inr (12, [.ref q8, .int (0 : Int32), .int (0 : Int32), .int (0 : Int32), .int (0 : Int32), .int (0 : Int32), .int (0 : Int32), .int (0 : Int32), .int (0 : Int32), .ref q16, .null, .null, .null, .int (0 : Int32), .null, .null, .null, .null, .null, .null, .int (0 : Int32), .null, .null, .null, .int (0 : Int32), .null, .null, .null, .null])), (q8, aI cy 200 (fun _ => 0)), (q16, aI cy 9 a63), (q70, aI cy 34 a173)] H := hP
  have hD : va_D A [(h, .inr (12, [.ref q8, .int (0 : Int32), .int (0 : Int32), .int (0 : Int32), .int (0 : Int32), .int (0 : Int32), .int (0 : Int32), .int (0 : Int32), .int (0 : Int32), .ref q16, .null, .null, .null, .int (0 : Int32), .null, .null, .null, .null, .null, .null, .int (0 : Int32), .null, .null, .null, .int (0 : Int32), .null, .null, .null, .null])), (q8, aI cy 200 (fun _ => 0)), (q16, aI cy 9 a63), (q70, aI cy 34 a173)] := hD
  refine lv_dup hx hb dX12_init_174 rfl ?_
  refine lv_bipush (v := 18) hx hb dX12_init_175 (by decide) ?_
  refine lv_bipush (v := 101) hx hb dX12_init_177 (by decide) ?_
  obtain ⟨a179, ea179⟩ : ∃ y : Nat → Int32, y = upd a173 (18 : Int32).toNatClampNeg (101 : Int32) := ⟨_, rfl⟩
  have hf := zl_of hf a179 ea179
  refine va_iast hx hb hK hP hD hS 3 1 rfl rfl (show vp_in (18 : Int32) 34 by unfold vp_in; decide) dX12_init_179 (fun H locs hP hD hS => ?_)
  rw [← ea179] at hP hD
  have hP : va_P D vwCl [(h, .inr (12, [.ref q8, .int (0 : Int32), .int (0 : Int32), .int (0 : Int32), .int (0 : Int32), .int (0 : Int32), .int (0 : Int32), .int (0 : Int32), .int (0 : Int32), .ref q16, .null, .null, .null, .int (0 : Int32), .null, .null, .null, .null, .null, .null, .int (0 : Int32), .null, .null, .null, .int (0 : Int32), .null, .null, .null, .null])), (q8, aI cy 200 (fun _ => 0)), (q16, aI cy 9 a63), (q70, aI cy 34 a179)] H := hP
  have hD : va_D A [(h, .inr (12, [.ref q8, .int (0 : Int32), .int (0 : Int32), .int (0 : Int32), .int (0 : Int32), .int (0 : Int32), .int (0 : Int32), .int (0 : Int32), .int (0 : Int32), .ref q16, .null, .null, .null, .int (0 : Int32), .null, .null, .null, .null, .null, .null, .int (0 : Int32), .null, .null, .null, .int (0 : Int32), .null, .null, .null, .null])), (q8, aI cy 200 (fun _ => 0)), (q16, aI cy 9 a63), (q70, aI cy 34 a179)] := hD
  refine lv_dup hx hb dX12_init_180 rfl ?_
  refine lv_bipush (v := 19) hx hb dX12_init_181 (by decide) ?_
  refine lv_bipush (v := 97) hx hb dX12_init_183 (by decide) ?_
  obtain ⟨a185, ea185⟩ : ∃ y : Nat → Int32, y = upd a179 (19 : Int32).toNatClampNeg (97 : Int32) := ⟨_, rfl⟩
  have hf := zl_of hf a185 ea185
  refine va_iast hx hb hK hP hD hS 3 1 rfl rfl (show vp_in (19 : Int32) 34 by unfold vp_in; decide) dX12_init_185 (fun H locs hP hD hS => ?_)
  rw [← ea185] at hP hD
  have hP : va_P D vwCl [(h, .inr (12, [.ref q8, .int (0 : Int32), .int (0 : Int32), .int (0 : Int32), .int (0 : Int32), .int (0 : Int32), .int (0 : Int32), .int (0 : Int32), .int (0 : Int32), .ref q16, .null, .null, .null, .int (0 : Int32), .null, .null, .null, .null, .null, .null, .int (0 : Int32), .null, .null, .null, .int (0 : Int32), .null, .null, .null, .null])), (q8, aI cy 200 (fun _ => 0)), (q16, aI cy 9 a63), (q70, aI cy 34 a185)] H := hP
  have hD : va_D A [(h, .inr (12, [.ref q8, .int (0 : Int32), .int (0 : Int32), .int (0 : Int32), .int (0 : Int32), .int (0 : Int32), .int (0 : Int32), .int (0 : Int32), .int (0 : Int32), .ref q16, .null, .null, .null, .int (0 : Int32), .null, .null, .null, .null, .null, .null, .int (0 : Int32), .null, .null, .null, .int (0 : Int32), .null, .null, .null, .null])), (q8, aI cy 200 (fun _ => 0)), (q16, aI cy 9 a63), (q70, aI cy 34 a185)] := hD
  refine lv_dup hx hb dX12_init_186 rfl ?_
  refine lv_bipush (v := 20) hx hb dX12_init_187 (by decide) ?_
  refine lv_bipush (v := 110) hx hb dX12_init_189 (by decide) ?_
  obtain ⟨a191, ea191⟩ : ∃ y : Nat → Int32, y = upd a185 (20 : Int32).toNatClampNeg (110 : Int32) := ⟨_, rfl⟩
  have hf := zl_of hf a191 ea191
  refine va_iast hx hb hK hP hD hS 3 1 rfl rfl (show vp_in (20 : Int32) 34 by unfold vp_in; decide) dX12_init_191 (fun H locs hP hD hS => ?_)
  rw [← ea191] at hP hD
  have hP : va_P D vwCl [(h, .inr (12, [.ref q8, .int (0 : Int32), .int (0 : Int32), .int (0 : Int32), .int (0 : Int32), .int (0 : Int32), .int (0 : Int32), .int (0 : Int32), .int (0 : Int32), .ref q16, .null, .null, .null, .int (0 : Int32), .null, .null, .null, .null, .null, .null, .int (0 : Int32), .null, .null, .null, .int (0 : Int32), .null, .null, .null, .null])), (q8, aI cy 200 (fun _ => 0)), (q16, aI cy 9 a63), (q70, aI cy 34 a191)] H := hP
  have hD : va_D A [(h, .inr (12, [.ref q8, .int (0 : Int32), .int (0 : Int32), .int (0 : Int32), .int (0 : Int32), .int (0 : Int32), .int (0 : Int32), .int (0 : Int32), .int (0 : Int32), .ref q16, .null, .null, .null, .int (0 : Int32), .null, .null, .null, .null, .null, .null, .int (0 : Int32), .null, .null, .null, .int (0 : Int32), .null, .null, .null, .null])), (q8, aI cy 200 (fun _ => 0)), (q16, aI cy 9 a63), (q70, aI cy 34 a191)] := hD
  refine lv_dup hx hb dX12_init_192 rfl ?_
  refine lv_bipush (v := 21) hx hb dX12_init_193 (by decide) ?_
  refine lv_bipush (v := 114) hx hb dX12_init_195 (by decide) ?_
  obtain ⟨a197, ea197⟩ : ∃ y : Nat → Int32, y = upd a191 (21 : Int32).toNatClampNeg (114 : Int32) := ⟨_, rfl⟩
  have hf := zl_of hf a197 ea197
  refine va_iast hx hb hK hP hD hS 3 1 rfl rfl (show vp_in (21 : Int32) 34 by unfold vp_in; decide) dX12_init_197 (fun H locs hP hD hS => ?_)
  rw [← ea197] at hP hD
  have hP : va_P D vwCl [(h, .inr (12, [.ref q8, .int (0 : Int32), .int (0 : Int32), .int (0 : Int32), .int (0 : Int32), .int (0 : Int32), .int (0 : Int32), .int (0 : Int32), .int (0 : Int32), .ref q16, .null, .null, .null, .int (0 : Int32), .null, .null, .null, .null, .null, .null, .int (0 : Int32), .null, .null, .null, .int (0 : Int32), .null, .null, .null, .null])), (q8, aI cy 200 (fun _ => 0)), (q16, aI cy 9 a63), (q70, aI cy 34 a197)] H := hP
  have hD : va_D A [(h, .inr (12, [.ref q8, .int (0 : Int32), .int (0 : Int32), .int (0 : Int32), .int (0 : Int32), .int (0 : Int32), .int (0 : Int32), .int (0 : Int32), .int (0 : Int32), .ref q16, .null, .null, .null, .int (0 : Int32), .null, .null, .null, .null, .null, .null, .int (0 : Int32), .null, .null, .null, .int (0 : Int32), .null, .null, .null, .null])), (q8, aI cy 200 (fun _ => 0)), (q16, aI cy 9 a63), (q70, aI cy 34 a197)] := hD
  refine lv_dup hx hb dX12_init_198 rfl ?_
  refine lv_bipush (v := 22) hx hb dX12_init_199 (by decide) ?_
  refine lv_bipush (v := 101) hx hb dX12_init_201 (by decide) ?_
  obtain ⟨a203, ea203⟩ : ∃ y : Nat → Int32, y = upd a197 (22 : Int32).toNatClampNeg (101 : Int32) := ⟨_, rfl⟩
  have hf := zl_of hf a203 ea203
  refine va_iast hx hb hK hP hD hS 3 1 rfl rfl (show vp_in (22 : Int32) 34 by unfold vp_in; decide) dX12_init_203 (fun H locs hP hD hS => ?_)
  rw [← ea203] at hP hD
  have hP : va_P D vwCl [(h, .inr (12, [.ref q8, .int (0 : Int32), .int (0 : Int32), .int (0 : Int32), .int (0 : Int32), .int (0 : Int32), .int (0 : Int32), .int (0 : Int32), .int (0 : Int32), .ref q16, .null, .null, .null, .int (0 : Int32), .null, .null, .null, .null, .null, .null, .int (0 : Int32), .null, .null, .null, .int (0 : Int32), .null, .null, .null, .null])), (q8, aI cy 200 (fun _ => 0)), (q16, aI cy 9 a63), (q70, aI cy 34 a203)] H := hP
  have hD : va_D A [(h, .inr (12, [.ref q8, .int (0 : Int32), .int (0 : Int32), .int (0 : Int32), .int (0 : Int32), .int (0 : Int32), .int (0 : Int32), .int (0 : Int32), .int (0 : Int32), .ref q16, .null, .null, .null, .int (0 : Int32), .null, .null, .null, .null, .null, .null, .int (0 : Int32), .null, .null, .null, .int (0 : Int32), .null, .null, .null, .null])), (q8, aI cy 200 (fun _ => 0)), (q16, aI cy 9 a63), (q70, aI cy 34 a203)] := hD
  refine lv_dup hx hb dX12_init_204 rfl ?_
  refine lv_bipush (v := 23) hx hb dX12_init_205 (by decide) ?_
  refine lv_bipush (v := 102) hx hb dX12_init_207 (by decide) ?_
  obtain ⟨a209, ea209⟩ : ∃ y : Nat → Int32, y = upd a203 (23 : Int32).toNatClampNeg (102 : Int32) := ⟨_, rfl⟩
  have hf := zl_of hf a209 ea209
  refine va_iast hx hb hK hP hD hS 3 1 rfl rfl (show vp_in (23 : Int32) 34 by unfold vp_in; decide) dX12_init_209 (fun H locs hP hD hS => ?_)
  rw [← ea209] at hP hD
  have hP : va_P D vwCl [(h, .inr (12, [.ref q8, .int (0 : Int32), .int (0 : Int32), .int (0 : Int32), .int (0 : Int32), .int (0 : Int32), .int (0 : Int32), .int (0 : Int32), .int (0 : Int32), .ref q16, .null, .null, .null, .int (0 : Int32), .null, .null, .null, .null, .null, .null, .int (0 : Int32), .null, .null, .null, .int (0 : Int32), .null, .null, .null, .null])), (q8, aI cy 200 (fun _ => 0)), (q16, aI cy 9 a63), (q70, aI cy 34 a209)] H := hP
  have hD : va_D A [(h, .inr (12, [.ref q8, .int (0 : Int32), .int (0 : Int32), .int (0 : Int32), .int (0 : Int32), .int (0 : Int32), .int (0 : Int32), .int (0 : Int32), .int (0 : Int32), .ref q16, .null, .null, .null, .int (0 : Int32), .null, .null, .null, .null, .null, .null, .int (0 : Int32), .null, .null, .null, .int (0 : Int32), .null, .null, .null, .null])), (q8, aI cy 200 (fun _ => 0)), (q16, aI cy 9 a63), (q70, aI cy 34 a209)] := hD
  refine lv_dup hx hb dX12_init_210 rfl ?_
  refine lv_bipush (v := 24) hx hb dX12_init_211 (by decide) ?_
  refine lv_bipush (v := 109) hx hb dX12_init_213 (by decide) ?_
  obtain ⟨a215, ea215⟩ : ∃ y : Nat → Int32, y = upd a209 (24 : Int32).toNatClampNeg (109 : Int32) := ⟨_, rfl⟩
  have hf := zl_of hf a215 ea215
  refine va_iast hx hb hK hP hD hS 3 1 rfl rfl (show vp_in (24 : Int32) 34 by unfold vp_in; decide) dX12_init_215 (fun H locs hP hD hS => ?_)
  rw [← ea215] at hP hD
  have hP : va_P D vwCl [(h, .inr (12, [.ref q8, .int (0 : Int32), .int (0 : Int32), .int (0 : Int32), .int (0 : Int32), .int (0 : Int32), .int (0 : Int32), .int (0 : Int32), .int (0 : Int32), .ref q16, .null, .null, .null, .int (0 : Int32), .null, .null, .null, .null, .null, .null, .int (0 : Int32), .null, .null, .null, .int (0 : Int32), .null, .null, .null, .null])), (q8, aI cy 200 (fun _ => 0)), (q16, aI cy 9 a63), (q70, aI cy 34 a215)] H := hP
  have hD : va_D A [(h, .inr (12, [.ref q8, .int (0 : Int32), .int (0 : Int32), .int (0 : Int32), .int (0 : Int32), .int (0 : Int32), .int (0 : Int32), .int (0 : Int32), .int (0 : Int32), .ref q16, .null, .null, .null, .int (0 : Int32), .null, .null, .null, .null, .null, .null, .int (0 : Int32), .null, .null, .null, .int (0 : Int32), .null, .null, .null, .null])), (q8, aI cy 200 (fun _ => 0)), (q16, aI cy 9 a63), (q70, aI cy 34 a215)] := hD
  refine lv_dup hx hb dX12_init_216 rfl ?_
  refine lv_bipush (v := 25) hx hb dX12_init_217 (by decide) ?_
  refine lv_bipush (v := 105) hx hb dX12_init_219 (by decide) ?_
  obtain ⟨a221, ea221⟩ : ∃ y : Nat → Int32, y = upd a215 (25 : Int32).toNatClampNeg (105 : Int32) := ⟨_, rfl⟩
  have hf := zl_of hf a221 ea221
  refine va_iast hx hb hK hP hD hS 3 1 rfl rfl (show vp_in (25 : Int32) 34 by unfold vp_in; decide) dX12_init_221 (fun H locs hP hD hS => ?_)
  rw [← ea221] at hP hD
  have hP : va_P D vwCl [(h, .inr (12, [.ref q8, .int (0 : Int32), .int (0 : Int32), .int (0 : Int32), .int (0 : Int32), .int (0 : Int32), .int (0 : Int32), .int (0 : Int32), .int (0 : Int32), .ref q16, .null, .null, .null, .int (0 : Int32), .null, .null, .null, .null, .null, .null, .int (0 : Int32), .null, .null, .null, .int (0 : Int32), .null, .null, .null, .null])), (q8, aI cy 200 (fun _ => 0)), (q16, aI cy 9 a63), (q70, aI cy 34 a221)] H := hP
  have hD : va_D A [(h, .inr (12, [.ref q8, .int (0 : Int32), .int (0 : Int32), .int (0 : Int32), .int (0 : Int32), .int (0 : Int32), .int (0 : Int32), .int (0 : Int32), .int (0 : Int32), .ref q16, .null, .null, .null, .int (0 : Int32), .null, .null, .null, .null, .null, .null, .int (0 : Int32), .null, .null, .null, .int (0 : Int32), .null, .null, .null, .null])), (q8, aI cy 200 (fun _ => 0)), (q16, aI cy 9 a63), (q70, aI cy 34 a221)] := hD
  refine lv_dup hx hb dX12_init_222 rfl ?_
  refine lv_bipush (v := 26) hx hb dX12_init_223 (by decide) ?_
  refine lv_bipush (v := 115) hx hb dX12_init_225 (by decide) ?_
  obtain ⟨a227, ea227⟩ : ∃ y : Nat → Int32, y = upd a221 (26 : Int32).toNatClampNeg (115 : Int32) := ⟨_, rfl⟩
  have hf := zl_of hf a227 ea227
  refine va_iast hx hb hK hP hD hS 3 1 rfl rfl (show vp_in (26 : Int32) 34 by unfold vp_in; decide) dX12_init_227 (fun H locs hP hD hS => ?_)
  rw [← ea227] at hP hD
  have hP : va_P D vwCl [(h, .inr (12, [.ref q8, .int (0 : Int32), .int (0 : Int32), .int (0 : Int32), .int (0 : Int32), .int (0 : Int32), .int (0 : Int32), .int (0 : Int32), .int (0 : Int32), .ref q16, .null, .null, .null, .int (0 : Int32), .null, .null, .null, .null, .null, .null, .int (0 : Int32), .null, .null, .null, .int (0 : Int32), .null, .null, .null, .null])), (q8, aI cy 200 (fun _ => 0)), (q16, aI cy 9 a63), (q70, aI cy 34 a227)] H := hP
  have hD : va_D A [(h, .inr (12, [.ref q8, .int (0 : Int32), .int (0 : Int32), .int (0 : Int32), .int (0 : Int32), .int (0 : Int32), .int (0 : Int32), .int (0 : Int32), .int (0 : Int32), .ref q16, .null, .null, .null, .int (0 : Int32), .null, .null, .null, .null, .null, .null, .int (0 : Int32), .null, .null, .null, .int (0 : Int32), .null, .null, .null, .null])), (q8, aI cy 200 (fun _ => 0)), (q16, aI cy 9 a63), (q70, aI cy 34 a227)] := hD
  refine lv_dup hx hb dX12_init_228 rfl ?_
  refine lv_bipush (v := 27) hx hb dX12_init_229 (by decide) ?_
  refine lv_bipush (v := 115) hx hb dX12_init_231 (by decide) ?_
  obtain ⟨a233, ea233⟩ : ∃ y : Nat → Int32, y = upd a227 (27 : Int32).toNatClampNeg (115 : Int32) := ⟨_, rfl⟩
  have hf := zl_of hf a233 ea233
  refine va_iast hx hb hK hP hD hS 3 1 rfl rfl (show vp_in (27 : Int32) 34 by unfold vp_in; decide) dX12_init_233 (fun H locs hP hD hS => ?_)
  rw [← ea233] at hP hD
  have hP : va_P D vwCl [(h, .inr (12, [.ref q8, .int (0 : Int32), .int (0 : Int32), .int (0 : Int32), .int (0 : Int32), .int (0 : Int32), .int (0 : Int32), .int (0 : Int32), .int (0 : Int32), .ref q16, .null, .null, .null, .int (0 : Int32), .null, .null, .null, .null, .null, .null, .int (0 : Int32), .null, .null, .null, .int (0 : Int32), .null, .null, .null, .null])), (q8, aI cy 200 (fun _ => 0)), (q16, aI cy 9 a63), (q70, aI cy 34 a233)] H := hP
  have hD : va_D A [(h, .inr (12, [.ref q8, .int (0 : Int32), .int (0 : Int32), .int (0 : Int32), .int (0 : Int32), .int (0 : Int32), .int (0 : Int32), .int (0 : Int32), .int (0 : Int32), .ref q16, .null, .null, .null, .int (0 : Int32), .null, .null, .null, .null, .null, .null, .int (0 : Int32), .null, .null, .null, .int (0 : Int32), .null, .null, .null, .null])), (q8, aI cy 200 (fun _ => 0)), (q16, aI cy 9 a63), (q70, aI cy 34 a233)] := hD
  refine lv_dup hx hb dX12_init_234 rfl ?_
  refine lv_bipush (v := 28) hx hb dX12_init_235 (by decide) ?_
  refine lv_bipush (v := 115) hx hb dX12_init_237 (by decide) ?_
  obtain ⟨a239, ea239⟩ : ∃ y : Nat → Int32, y = upd a233 (28 : Int32).toNatClampNeg (115 : Int32) := ⟨_, rfl⟩
  have hf := zl_of hf a239 ea239
  refine va_iast hx hb hK hP hD hS 3 1 rfl rfl (show vp_in (28 : Int32) 34 by unfold vp_in; decide) dX12_init_239 (fun H locs hP hD hS => ?_)
  rw [← ea239] at hP hD
  have hP : va_P D vwCl [(h, .inr (12, [.ref q8, .int (0 : Int32), .int (0 : Int32), .int (0 : Int32), .int (0 : Int32), .int (0 : Int32), .int (0 : Int32), .int (0 : Int32), .int (0 : Int32), .ref q16, .null, .null, .null, .int (0 : Int32), .null, .null, .null, .null, .null, .null, .int (0 : Int32), .null, .null, .null, .int (0 : Int32), .null, .null, .null, .null])), (q8, aI cy 200 (fun _ => 0)), (q16, aI cy 9 a63), (q70, aI cy 34 a239)] H := hP
  have hD : va_D A [(h, .inr (12, [.ref q8, .int (0 : Int32), .int (0 : Int32), .int (0 : Int32), .int (0 : Int32), .int (0 : Int32), .int (0 : Int32), .int (0 : Int32), .int (0 : Int32), .ref q16, .null, .null, .null, .int (0 : Int32), .null, .null, .null, .null, .null, .null, .int (0 : Int32), .null, .null, .null, .int (0 : Int32), .null, .null, .null, .null])), (q8, aI cy 200 (fun _ => 0)), (q16, aI cy 9 a63), (q70, aI cy 34 a239)] := hD
  refine lv_dup hx hb dX12_init_240 rfl ?_
  refine lv_bipush (v := 29) hx hb dX12_init_241 (by decide) ?_
  refine lv_bipush (v := 116) hx hb dX12_init_243 (by decide) ?_
  obtain ⟨a245, ea245⟩ : ∃ y : Nat → Int32, y = upd a239 (29 : Int32).toNatClampNeg (116 : Int32) := ⟨_, rfl⟩
  have hf := zl_of hf a245 ea245
  refine va_iast hx hb hK hP hD hS 3 1 rfl rfl (show vp_in (29 : Int32) 34 by unfold vp_in; decide) dX12_init_245 (fun H locs hP hD hS => ?_)
  rw [← ea245] at hP hD
  have hP : va_P D vwCl [(h, .inr (12, [.ref q8, .int (0 : Int32), .int (0 : Int32), .int (0 : Int32), .int (0 : Int32), .int (0 : Int32), .int (0 : Int32), .int (0 : Int32), .int (0 : Int32), .ref q16, .null, .null, .null, .int (0 : Int32), .null, .null, .null, .null, .null, .null, .int (0 : Int32), .null, .null, .null, .int (0 : Int32), .null, .null, .null, .null])), (q8, aI cy 200 (fun _ => 0)), (q16, aI cy 9 a63), (q70, aI cy 34 a245)] H := hP
  have hD : va_D A [(h, .inr (12, [.ref q8, .int (0 : Int32), .int (0 : Int32), .int (0 : Int32), .int (0 : Int32), .int (0 : Int32), .int (0 : Int32), .int (0 : Int32), .int (0 : Int32), .ref q16, .null, .null, .null, .int (0 : Int32), .null, .null, .null, .null, .null, .null, .int (0 : Int32), .null, .null, .null, .int (0 : Int32), .null, .null, .null, .null])), (q8, aI cy 200 (fun _ => 0)), (q16, aI cy 9 a63), (q70, aI cy 34 a245)] := hD
  refine lv_dup hx hb dX12_init_246 rfl ?_
  refine lv_bipush (v := 30) hx hb dX12_init_247 (by decide) ?_
  refine lv_bipush (v := 114) hx hb dX12_init_249 (by decide) ?_
  obtain ⟨a251, ea251⟩ : ∃ y : Nat → Int32, y = upd a245 (30 : Int32).toNatClampNeg (114 : Int32) := ⟨_, rfl⟩
  have hf := zl_of hf a251 ea251
  refine va_iast hx hb hK hP hD hS 3 1 rfl rfl (show vp_in (30 : Int32) 34 by unfold vp_in; decide) dX12_init_251 (fun H locs hP hD hS => ?_)
  rw [← ea251] at hP hD
  have hP : va_P D vwCl [(h, .inr (12, [.ref q8, .int (0 : Int32), .int (0 : Int32), .int (0 : Int32), .int (0 : Int32), .int (0 : Int32), .int (0 : Int32), .int (0 : Int32), .int (0 : Int32), .ref q16, .null, .null, .null, .int (0 : Int32), .null, .null, .null, .null, .null, .null, .int (0 : Int32), .null, .null, .null, .int (0 : Int32), .null, .null, .null, .null])), (q8, aI cy 200 (fun _ => 0)), (q16, aI cy 9 a63), (q70, aI cy 34 a251)] H := hP
  have hD : va_D A [(h, .inr (12, [.ref q8, .int (0 : Int32), .int (0 : Int32), .int (0 : Int32), .int (0 : Int32), .int (0 : Int32), .int (0 : Int32), .int (0 : Int32), .int (0 : Int32), .ref q16, .null, .null, .null, .int (0 : Int32), .null, .null, .null, .null, .null, .null, .int (0 : Int32), .null, .null, .null, .int (0 : Int32), .null, .null, .null, .null])), (q8, aI cy 200 (fun _ => 0)), (q16, aI cy 9 a63), (q70, aI cy 34 a251)] := hD
  refine lv_dup hx hb dX12_init_252 rfl ?_
  refine lv_bipush (v := 31) hx hb dX12_init_253 (by decide) ?_
  refine lv_bipush (v := 105) hx hb dX12_init_255 (by decide) ?_
  obtain ⟨a257, ea257⟩ : ∃ y : Nat → Int32, y = upd a251 (31 : Int32).toNatClampNeg (105 : Int32) := ⟨_, rfl⟩
  have hf := zl_of hf a257 ea257
  refine va_iast hx hb hK hP hD hS 3 1 rfl rfl (show vp_in (31 : Int32) 34 by unfold vp_in; decide) dX12_init_257 (fun H locs hP hD hS => ?_)
  rw [← ea257] at hP hD
  have hP : va_P D vwCl [(h, .inr (12, [.ref q8, .int (0 : Int32), .int (0 : Int32), .int (0 : Int32), .int (0 : Int32), .int (0 : Int32), .int (0 : Int32), .int (0 : Int32), .int (0 : Int32), .ref q16, .null, .null, .null, .int (0 : Int32), .null, .null, .null, .null, .null, .null, .int (0 : Int32), .null, .null, .null, .int (0 : Int32), .null, .null, .null, .null])), (q8, aI cy 200 (fun _ => 0)), (q16, aI cy 9 a63), (q70, aI cy 34 a257)] H := hP
  have hD : va_D A [(h, .inr (12, [.ref q8, .int (0 : Int32), .int (0 : Int32), .int (0 : Int32), .int (0 : Int32), .int (0 : Int32), .int (0 : Int32), .int (0 : Int32), .int (0 : Int32), .ref q16, .null, .null, .null, .int (0 : Int32), .null, .null, .null, .null, .null, .null, .int (0 : Int32), .null, .null, .null, .int (0 : Int32), .null, .null, .null, .null])), (q8, aI cy 200 (fun _ => 0)), (q16, aI cy 9 a63), (q70, aI cy 34 a257)] := hD
  refine lv_dup hx hb dX12_init_258 rfl ?_
  refine lv_bipush (v := 32) hx hb dX12_init_259 (by decide) ?_
  refine lv_bipush (v := 110) hx hb dX12_init_261 (by decide) ?_
  obtain ⟨a263, ea263⟩ : ∃ y : Nat → Int32, y = upd a257 (32 : Int32).toNatClampNeg (110 : Int32) := ⟨_, rfl⟩
  have hf := zl_of hf a263 ea263
  refine va_iast hx hb hK hP hD hS 3 1 rfl rfl (show vp_in (32 : Int32) 34 by unfold vp_in; decide) dX12_init_263 (fun H locs hP hD hS => ?_)
  rw [← ea263] at hP hD
  have hP : va_P D vwCl [(h, .inr (12, [.ref q8, .int (0 : Int32), .int (0 : Int32), .int (0 : Int32), .int (0 : Int32), .int (0 : Int32), .int (0 : Int32), .int (0 : Int32), .int (0 : Int32), .ref q16, .null, .null, .null, .int (0 : Int32), .null, .null, .null, .null, .null, .null, .int (0 : Int32), .null, .null, .null, .int (0 : Int32), .null, .null, .null, .null])), (q8, aI cy 200 (fun _ => 0)), (q16, aI cy 9 a63), (q70, aI cy 34 a263)] H := hP
  have hD : va_D A [(h, .inr (12, [.ref q8, .int (0 : Int32), .int (0 : Int32), .int (0 : Int32), .int (0 : Int32), .int (0 : Int32), .int (0 : Int32), .int (0 : Int32), .int (0 : Int32), .ref q16, .null, .null, .null, .int (0 : Int32), .null, .null, .null, .null, .null, .null, .int (0 : Int32), .null, .null, .null, .int (0 : Int32), .null, .null, .null, .null])), (q8, aI cy 200 (fun _ => 0)), (q16, aI cy 9 a63), (q70, aI cy 34 a263)] := hD
  refine lv_dup hx hb dX12_init_264 rfl ?_
  refine lv_bipush (v := 33) hx hb dX12_init_265 (by decide) ?_
  refine lv_bipush (v := 103) hx hb dX12_init_267 (by decide) ?_
  obtain ⟨a269, ea269⟩ : ∃ y : Nat → Int32, y = upd a263 (33 : Int32).toNatClampNeg (103 : Int32) := ⟨_, rfl⟩
  have hf := zl_of hf a269 ea269
  refine va_iast hx hb hK hP hD hS 3 1 rfl rfl (show vp_in (33 : Int32) 34 by unfold vp_in; decide) dX12_init_269 (fun H locs hP hD hS => ?_)
  rw [← ea269] at hP hD
  have hP : va_P D vwCl [(h, .inr (12, [.ref q8, .int (0 : Int32), .int (0 : Int32), .int (0 : Int32), .int (0 : Int32), .int (0 : Int32), .int (0 : Int32), .int (0 : Int32), .int (0 : Int32), .ref q16, .null, .null, .null, .int (0 : Int32), .null, .null, .null, .null, .null, .null, .int (0 : Int32), .null, .null, .null, .int (0 : Int32), .null, .null, .null, .null])), (q8, aI cy 200 (fun _ => 0)), (q16, aI cy 9 a63), (q70, aI cy 34 a269)] H := hP
  have hD : va_D A [(h, .inr (12, [.ref q8, .int (0 : Int32), .int (0 : Int32), .int (0 : Int32), .int (0 : Int32), .int (0 : Int32), .int (0 : Int32), .int (0 : Int32), .int (0 : Int32), .ref q16, .null, .null, .null, .int (0 : Int32), .null, .null, .null, .null, .null, .null, .int (0 : Int32), .null, .null, .null, .int (0 : Int32), .null, .null, .null, .null])), (q8, aI cy 200 (fun _ => 0)), (q16, aI cy 9 a63), (q70, aI cy 34 a269)] := hD
  refine va_putF (D := D) (ci := 12) (v := .ref q70) (ty := (.array .int)) (C := RX12) (T := TX12) (N := 29) hx hb hts ui_X12 tyX12 tyX12_ok nmX12 hown hK hP hD hS 0 rfl rfl 10 (by decide) (hts _ fl_X12_16) (fun _ h9 => h9) rfl hin rfl (by decide +kernel) rfl rfl (Nat.le_of_ble_eq_true rfl) dX12_init_270 (fun H locs hP hD hS => ?_)
  have hP : va_P D vwCl [(h, .inr (12, [.ref q8, .int (0 : Int32), .int (0 : Int32), .int (0 : Int32), .int (0 : Int32), .int (0 : Int32), .int (0 : Int32), .int (0 : Int32), .int (0 : Int32), .ref q16, .ref q70, .null, .null, .int (0 : Int32), .null, .null, .null, .null, .null, .null, .int (0 : Int32), .null, .null, .null, .int (0 : Int32), .null, .null, .null, .null])), (q8, aI cy 200 (fun _ => 0)), (q16, aI cy 9 a63), (q70, aI cy 34 a269)] H := hP
  have hD : va_D A [(h, .inr (12, [.ref q8, .int (0 : Int32), .int (0 : Int32), .int (0 : Int32), .int (0 : Int32), .int (0 : Int32), .int (0 : Int32), .int (0 : Int32), .int (0 : Int32), .ref q16, .ref q70, .null, .null, .int (0 : Int32), .null, .null, .null, .null, .null, .null, .int (0 : Int32), .null, .null, .null, .int (0 : Int32), .null, .null, .null, .null])), (q8, aI cy 200 (fun _ => 0)), (q16, aI cy 9 a63), (q70, aI cy 34 a269)] := hD
  refine lv_aload_n hx hb dX12_init_273 rfl (lv_at hl 0 rfl) ?_
  refine lv_bipush (v := 31) hx hb dX12_init_274 (by decide) ?_
  refine newI C hP hD hS (by decide) rfl (Nat.le_of_ble_eq_true rfl) (Nat.le_of_ble_eq_true rfl) (Nat.le_of_ble_eq_true rfl) dX12_init_276 (fun q276 H hP hD hS => ?_)
  have hP : va_P D vwCl [(h, .inr (12, [.ref q8, .int (0 : Int32), .int (0 : Int32), .int (0 : Int32), .int (0 : Int32), .int (0 : Int32), .int (0 : Int32), .int (0 : Int32), .int (0 : Int32), .ref q16, .ref q70, .null, .null, .int (0 : Int32), .null, .null, .null, .null, .null, .null, .int (0 : Int32), .null, .null, .null, .int (0 : Int32), .null, .null, .null, .null])), (q8, aI cy 200 (fun _ => 0)), (q16, aI cy 9 a63), (q70, aI cy 34 a269), (q276, aI cy 31 (fun _ => 0))] H := hP
  have hD : va_D A [(h, .inr (12, [.ref q8, .int (0 : Int32), .int (0 : Int32), .int (0 : Int32), .int (0 : Int32), .int (0 : Int32), .int (0 : Int32), .int (0 : Int32), .int (0 : Int32), .ref q16, .ref q70, .null, .null, .int (0 : Int32), .null, .null, .null, .null, .null, .null, .int (0 : Int32), .null, .null, .null, .int (0 : Int32), .null, .null, .null, .null])), (q8, aI cy 200 (fun _ => 0)), (q16, aI cy 9 a63), (q70, aI cy 34 a269), (q276, aI cy 31 (fun _ => 0))] := hD
  refine W.widen (k := 4) (n := 274) (Nat.le_refl _) (Nat.le_refl _) ?_
  refine lv_dup hx hb dX12_init_278 rfl ?_
  refine lv_iconst (v := 0) hx hb dX12_init_279 (by decide) ?_
  refine lv_iconst (v := 4) hx hb dX12_init_280 (by decide) ?_
  obtain ⟨a281, ea281⟩ : ∃ y : Nat → Int32, y = upd (fun _ => (0 : Int32)) (0 : Int32).toNatClampNeg (4 : Int32) := ⟨_, rfl⟩
  have hf := zl_of hf a281 ea281
  refine va_iast hx hb hK hP hD hS 4 1 rfl rfl (show vp_in (0 : Int32) 31 by unfold vp_in; decide) dX12_init_281 (fun H locs hP hD hS => ?_)
  rw [← ea281] at hP hD
  have hP : va_P D vwCl [(h, .inr (12, [.ref q8, .int (0 : Int32), .int (0 : Int32), .int (0 : Int32), .int (0 : Int32), .int (0 : Int32), .int (0 : Int32), .int (0 : Int32), .int (0 : Int32), .ref q16, .ref q70, .null, .null, .int (0 : Int32), .null, .null, .null, .null, .null, .null, .int (0 : Int32), .null, .null, .null, .int (0 : Int32), .null, .null, .null, .null])), (q8, aI cy 200 (fun _ => 0)), (q16, aI cy 9 a63), (q70, aI cy 34 a269), (q276, aI cy 31 a281)] H := hP
  have hD : va_D A [(h, .inr (12, [.ref q8, .int (0 : Int32), .int (0 : Int32), .int (0 : Int32), .int (0 : Int32), .int (0 : Int32), .int (0 : Int32), .int (0 : Int32), .int (0 : Int32), .ref q16, .ref q70, .null, .null, .int (0 : Int32), .null, .null, .null, .null, .null, .null, .int (0 : Int32), .null, .null, .null, .int (0 : Int32), .null, .null, .null, .null])), (q8, aI cy 200 (fun _ => 0)), (q16, aI cy 9 a63), (q70, aI cy 34 a269), (q276, aI cy 31 a281)] := hD
  refine lv_dup hx hb dX12_init_282 rfl ?_
  refine lv_iconst (v := 1) hx hb dX12_init_283 (by decide) ?_
  refine lv_bipush (v := 16) hx hb dX12_init_284 (by decide) ?_
  obtain ⟨a286, ea286⟩ : ∃ y : Nat → Int32, y = upd a281 (1 : Int32).toNatClampNeg (16 : Int32) := ⟨_, rfl⟩
  have hf := zl_of hf a286 ea286
  refine va_iast hx hb hK hP hD hS 4 1 rfl rfl (show vp_in (1 : Int32) 31 by unfold vp_in; decide) dX12_init_286 (fun H locs hP hD hS => ?_)
  rw [← ea286] at hP hD
  have hP : va_P D vwCl [(h, .inr (12, [.ref q8, .int (0 : Int32), .int (0 : Int32), .int (0 : Int32), .int (0 : Int32), .int (0 : Int32), .int (0 : Int32), .int (0 : Int32), .int (0 : Int32), .ref q16, .ref q70, .null, .null, .int (0 : Int32), .null, .null, .null, .null, .null, .null, .int (0 : Int32), .null, .null, .null, .int (0 : Int32), .null, .null, .null, .null])), (q8, aI cy 200 (fun _ => 0)), (q16, aI cy 9 a63), (q70, aI cy 34 a269), (q276, aI cy 31 a286)] H := hP
  have hD : va_D A [(h, .inr (12, [.ref q8, .int (0 : Int32), .int (0 : Int32), .int (0 : Int32), .int (0 : Int32), .int (0 : Int32), .int (0 : Int32), .int (0 : Int32), .int (0 : Int32), .ref q16, .ref q70, .null, .null, .int (0 : Int32), .null, .null, .null, .null, .null, .null, .int (0 : Int32), .null, .null, .null, .int (0 : Int32), .null, .null, .null, .null])), (q8, aI cy 200 (fun _ => 0)), (q16, aI cy 9 a63), (q70, aI cy 34 a269), (q276, aI cy 31 a286)] := hD
  refine lv_dup hx hb dX12_init_287 rfl ?_
  refine lv_iconst (v := 2) hx hb dX12_init_288 (by decide) ?_
  refine lv_iconst (v := 0) hx hb dX12_init_289 (by decide) ?_
  obtain ⟨a290, ea290⟩ : ∃ y : Nat → Int32, y = upd a286 (2 : Int32).toNatClampNeg (0 : Int32) := ⟨_, rfl⟩
  have hf := zl_of hf a290 ea290
  refine va_iast hx hb hK hP hD hS 4 1 rfl rfl (show vp_in (2 : Int32) 31 by unfold vp_in; decide) dX12_init_290 (fun H locs hP hD hS => ?_)
  rw [← ea290] at hP hD
  have hP : va_P D vwCl [(h, .inr (12, [.ref q8, .int (0 : Int32), .int (0 : Int32), .int (0 : Int32), .int (0 : Int32), .int (0 : Int32), .int (0 : Int32), .int (0 : Int32), .int (0 : Int32), .ref q16, .ref q70, .null, .null, .int (0 : Int32), .null, .null, .null, .null, .null, .null, .int (0 : Int32), .null, .null, .null, .int (0 : Int32), .null, .null, .null, .null])), (q8, aI cy 200 (fun _ => 0)), (q16, aI cy 9 a63), (q70, aI cy 34 a269), (q276, aI cy 31 a290)] H := hP
  have hD : va_D A [(h, .inr (12, [.ref q8, .int (0 : Int32), .int (0 : Int32), .int (0 : Int32), .int (0 : Int32), .int (0 : Int32), .int (0 : Int32), .int (0 : Int32), .int (0 : Int32), .ref q16, .ref q70, .null, .null, .int (0 : Int32), .null, .null, .null, .null, .null, .null, .int (0 : Int32), .null, .null, .null, .int (0 : Int32), .null, .null, .null, .null])), (q8, aI cy 200 (fun _ => 0)), (q16, aI cy 9 a63), (q70, aI cy 34 a269), (q276, aI cy 31 a290)] := hD
  refine lv_dup hx hb dX12_init_291 rfl ?_
  refine lv_iconst (v := 3) hx hb dX12_init_292 (by decide) ?_
  refine lv_iconst (v := 0) hx hb dX12_init_293 (by decide) ?_
  obtain ⟨a294, ea294⟩ : ∃ y : Nat → Int32, y = upd a290 (3 : Int32).toNatClampNeg (0 : Int32) := ⟨_, rfl⟩
  have hf := zl_of hf a294 ea294
  refine va_iast hx hb hK hP hD hS 4 1 rfl rfl (show vp_in (3 : Int32) 31 by unfold vp_in; decide) dX12_init_294 (fun H locs hP hD hS => ?_)
  rw [← ea294] at hP hD
  have hP : va_P D vwCl [(h, .inr (12, [.ref q8, .int (0 : Int32), .int (0 : Int32), .int (0 : Int32), .int (0 : Int32), .int (0 : Int32), .int (0 : Int32), .int (0 : Int32), .int (0 : Int32), .ref q16, .ref q70, .null, .null, .int (0 : Int32), .null, .null, .null, .null, .null, .null, .int (0 : Int32), .null, .null, .null, .int (0 : Int32), .null, .null, .null, .null])), (q8, aI cy 200 (fun _ => 0)), (q16, aI cy 9 a63), (q70, aI cy 34 a269), (q276, aI cy 31 a294)] H := hP
  have hD : va_D A [(h, .inr (12, [.ref q8, .int (0 : Int32), .int (0 : Int32), .int (0 : Int32), .int (0 : Int32), .int (0 : Int32), .int (0 : Int32), .int (0 : Int32), .int (0 : Int32), .ref q16, .ref q70, .null, .null, .int (0 : Int32), .null, .null, .null, .null, .null, .null, .int (0 : Int32), .null, .null, .null, .int (0 : Int32), .null, .null, .null, .null])), (q8, aI cy 200 (fun _ => 0)), (q16, aI cy 9 a63), (q70, aI cy 34 a269), (q276, aI cy 31 a294)] := hD
  refine lv_dup hx hb dX12_init_295 rfl ?_
  refine lv_iconst (v := 4) hx hb dX12_init_296 (by decide) ?_
  refine lv_iconst (v := 0) hx hb dX12_init_297 (by decide) ?_
  obtain ⟨a298, ea298⟩ : ∃ y : Nat → Int32, y = upd a294 (4 : Int32).toNatClampNeg (0 : Int32) := ⟨_, rfl⟩
  have hf := zl_of hf a298 ea298
  refine va_iast hx hb hK hP hD hS 4 1 rfl rfl (show vp_in (4 : Int32) 31 by unfold vp_in; decide) dX12_init_298 (fun H locs hP hD hS => ?_)
  rw [← ea298] at hP hD
  have hP : va_P D vwCl [(h, .inr (12, [.ref q8, .int (0 : Int32), .int (0 : Int32), .int (0 : Int32), .int (0 : Int32), .int (0 : Int32), .int (0 : Int32), .int (0 : Int32), .int (0 : Int32), .ref q16, .ref q70, .null, .null, .int (0 : Int32), .null, .null, .null, .null, .null, .null, .int (0 : Int32), .null, .null, .null, .int (0 : Int32), .null, .null, .null, .null])), (q8, aI cy 200 (fun _ => 0)), (q16, aI cy 9 a63), (q70, aI cy 34 a269), (q276, aI cy 31 a298)] H := hP
  have hD : va_D A [(h, .inr (12, [.ref q8, .int (0 : Int32), .int (0 : Int32), .int (0 : Int32), .int (0 : Int32), .int (0 : Int32), .int (0 : Int32), .int (0 : Int32), .int (0 : Int32), .ref q16, .ref q70, .null, .null, .int (0 : Int32), .null, .null, .null, .null, .null, .null, .int (0 : Int32), .null, .null, .null, .int (0 : Int32), .null, .null, .null, .null])), (q8, aI cy 200 (fun _ => 0)), (q16, aI cy 9 a63), (q70, aI cy 34 a269), (q276, aI cy 31 a298)] := hD
  refine lv_dup hx hb dX12_init_299 rfl ?_
  refine lv_iconst (v := 5) hx hb dX12_init_300 (by decide) ?_
  refine lv_bipush (v := 100) hx hb dX12_init_301 (by decide) ?_
  obtain ⟨a303, ea303⟩ : ∃ y : Nat → Int32, y = upd a298 (5 : Int32).toNatClampNeg (100 : Int32) := ⟨_, rfl⟩
  have hf := zl_of hf a303 ea303
  refine va_iast hx hb hK hP hD hS 4 1 rfl rfl (show vp_in (5 : Int32) 31 by unfold vp_in; decide) dX12_init_303 (fun H locs hP hD hS => ?_)
  rw [← ea303] at hP hD
  have hP : va_P D vwCl [(h, .inr (12, [.ref q8, .int (0 : Int32), .int (0 : Int32), .int (0 : Int32), .int (0 : Int32), .int (0 : Int32), .int (0 : Int32), .int (0 : Int32), .int (0 : Int32), .ref q16, .ref q70, .null, .null, .int (0 : Int32), .null, .null, .null, .null, .null, .null, .int (0 : Int32), .null, .null, .null, .int (0 : Int32), .null, .null, .null, .null])), (q8, aI cy 200 (fun _ => 0)), (q16, aI cy 9 a63), (q70, aI cy 34 a269), (q276, aI cy 31 a303)] H := hP
  have hD : va_D A [(h, .inr (12, [.ref q8, .int (0 : Int32), .int (0 : Int32), .int (0 : Int32), .int (0 : Int32), .int (0 : Int32), .int (0 : Int32), .int (0 : Int32), .int (0 : Int32), .ref q16, .ref q70, .null, .null, .int (0 : Int32), .null, .null, .null, .null, .null, .null, .int (0 : Int32), .null, .null, .null, .int (0 : Int32), .null, .null, .null, .null])), (q8, aI cy 200 (fun _ => 0)), (q16, aI cy 9 a63), (q70, aI cy 34 a269), (q276, aI cy 31 a303)] := hD
  refine lv_dup hx hb dX12_init_304 rfl ?_
  refine lv_bipush (v := 6) hx hb dX12_init_305 (by decide) ?_
  refine lv_iconst (v := 0) hx hb dX12_init_307 (by decide) ?_
  obtain ⟨a308, ea308⟩ : ∃ y : Nat → Int32, y = upd a303 (6 : Int32).toNatClampNeg (0 : Int32) := ⟨_, rfl⟩
  have hf := zl_of hf a308 ea308
  refine va_iast hx hb hK hP hD hS 4 1 rfl rfl (show vp_in (6 : Int32) 31 by unfold vp_in; decide) dX12_init_308 (fun H locs hP hD hS => ?_)
  rw [← ea308] at hP hD
  have hP : va_P D vwCl [(h, .inr (12, [.ref q8, .int (0 : Int32), .int (0 : Int32), .int (0 : Int32), .int (0 : Int32), .int (0 : Int32), .int (0 : Int32), .int (0 : Int32), .int (0 : Int32), .ref q16, .ref q70, .null, .null, .int (0 : Int32), .null, .null, .null, .null, .null, .null, .int (0 : Int32), .null, .null, .null, .int (0 : Int32), .null, .null, .null, .null])), (q8, aI cy 200 (fun _ => 0)), (q16, aI cy 9 a63), (q70, aI cy 34 a269), (q276, aI cy 31 a308)] H := hP
  have hD : va_D A [(h, .inr (12, [.ref q8, .int (0 : Int32), .int (0 : Int32), .int (0 : Int32), .int (0 : Int32), .int (0 : Int32), .int (0 : Int32), .int (0 : Int32), .int (0 : Int32), .ref q16, .ref q70, .null, .null, .int (0 : Int32), .null, .null, .null, .null, .null, .null, .int (0 : Int32), .null, .null, .null, .int (0 : Int32), .null, .null, .null, .null])), (q8, aI cy 200 (fun _ => 0)), (q16, aI cy 9 a63), (q70, aI cy 34 a269), (q276, aI cy 31 a308)] := hD
  refine lv_dup hx hb dX12_init_309 rfl ?_
  refine lv_bipush (v := 7) hx hb dX12_init_310 (by decide) ?_
  refine lv_iconst (v := 0) hx hb dX12_init_312 (by decide) ?_
  obtain ⟨a313, ea313⟩ : ∃ y : Nat → Int32, y = upd a308 (7 : Int32).toNatClampNeg (0 : Int32) := ⟨_, rfl⟩
  have hf := zl_of hf a313 ea313
  refine va_iast hx hb hK hP hD hS 4 1 rfl rfl (show vp_in (7 : Int32) 31 by unfold vp_in; decide) dX12_init_313 (fun H locs hP hD hS => ?_)
  rw [← ea313] at hP hD
  have hP : va_P D vwCl [(h, .inr (12, [.ref q8, .int (0 : Int32), .int (0 : Int32), .int (0 : Int32), .int (0 : Int32), .int (0 : Int32), .int (0 : Int32), .int (0 : Int32), .int (0 : Int32), .ref q16, .ref q70, .null, .null, .int (0 : Int32), .null, .null, .null, .null, .null, .null, .int (0 : Int32), .null, .null, .null, .int (0 : Int32), .null, .null, .null, .null])), (q8, aI cy 200 (fun _ => 0)), (q16, aI cy 9 a63), (q70, aI cy 34 a269), (q276, aI cy 31 a313)] H := hP
  have hD : va_D A [(h, .inr (12, [.ref q8, .int (0 : Int32), .int (0 : Int32), .int (0 : Int32), .int (0 : Int32), .int (0 : Int32), .int (0 : Int32), .int (0 : Int32), .int (0 : Int32), .ref q16, .ref q70, .null, .null, .int (0 : Int32), .null, .null, .null, .null, .null, .null, .int (0 : Int32), .null, .null, .null, .int (0 : Int32), .null, .null, .null, .null])), (q8, aI cy 200 (fun _ => 0)), (q16, aI cy 9 a63), (q70, aI cy 34 a269), (q276, aI cy 31 a313)] := hD
  refine lv_dup hx hb dX12_init_314 rfl ?_
  refine lv_bipush (v := 8) hx hb dX12_init_315 (by decide) ?_
  refine lv_iconst (v := 0) hx hb dX12_init_317 (by decide) ?_
  obtain ⟨a318, ea318⟩ : ∃ y : Nat → Int32, y = upd a313 (8 : Int32).toNatClampNeg (0 : Int32) := ⟨_, rfl⟩
  have hf := zl_of hf a318 ea318
  refine va_iast hx hb hK hP hD hS 4 1 rfl rfl (show vp_in (8 : Int32) 31 by unfold vp_in; decide) dX12_init_318 (fun H locs hP hD hS => ?_)
  rw [← ea318] at hP hD
  have hP : va_P D vwCl [(h, .inr (12, [.ref q8, .int (0 : Int32), .int (0 : Int32), .int (0 : Int32), .int (0 : Int32), .int (0 : Int32), .int (0 : Int32), .int (0 : Int32), .int (0 : Int32), .ref q16, .ref q70, .null, .null, .int (0 : Int32), .null, .null, .null, .null, .null, .null, .int (0 : Int32), .null, .null, .null, .int (0 : Int32), .null, .null, .null, .null])), (q8, aI cy 200 (fun _ => 0)), (q16, aI cy 9 a63), (q70, aI cy 34 a269), (q276, aI cy 31 a318)] H := hP
  have hD : va_D A [(h, .inr (12, [.ref q8, .int (0 : Int32), .int (0 : Int32), .int (0 : Int32), .int (0 : Int32), .int (0 : Int32), .int (0 : Int32), .int (0 : Int32), .int (0 : Int32), .ref q16, .ref q70, .null, .null, .int (0 : Int32), .null, .null, .null, .null, .null, .null, .int (0 : Int32), .null, .null, .null, .int (0 : Int32), .null, .null, .null, .null])), (q8, aI cy 200 (fun _ => 0)), (q16, aI cy 9 a63), (q70, aI cy 34 a269), (q276, aI cy 31 a318)] := hD
  refine lv_dup hx hb dX12_init_319 rfl ?_
  refine lv_bipush (v := 9) hx hb dX12_init_320 (by decide) ?_
  refine lv_iconst (v := 0) hx hb dX12_init_322 (by decide) ?_
  obtain ⟨a323, ea323⟩ : ∃ y : Nat → Int32, y = upd a318 (9 : Int32).toNatClampNeg (0 : Int32) := ⟨_, rfl⟩
  have hf := zl_of hf a323 ea323
  refine va_iast hx hb hK hP hD hS 4 1 rfl rfl (show vp_in (9 : Int32) 31 by unfold vp_in; decide) dX12_init_323 (fun H locs hP hD hS => ?_)
  rw [← ea323] at hP hD
  have hP : va_P D vwCl [(h, .inr (12, [.ref q8, .int (0 : Int32), .int (0 : Int32), .int (0 : Int32), .int (0 : Int32), .int (0 : Int32), .int (0 : Int32), .int (0 : Int32), .int (0 : Int32), .ref q16, .ref q70, .null, .null, .int (0 : Int32), .null, .null, .null, .null, .null, .null, .int (0 : Int32), .null, .null, .null, .int (0 : Int32), .null, .null, .null, .null])), (q8, aI cy 200 (fun _ => 0)), (q16, aI cy 9 a63), (q70, aI cy 34 a269), (q276, aI cy 31 a323)] H := hP
  have hD : va_D A [(h, .inr (12, [.ref q8, .int (0 : Int32), .int (0 : Int32), .int (0 : Int32), .int (0 : Int32), .int (0 : Int32), .int (0 : Int32), .int (0 : Int32), .int (0 : Int32), .ref q16, .ref q70, .null, .null, .int (0 : Int32), .null, .null, .null, .null, .null, .null, .int (0 : Int32), .null, .null, .null, .int (0 : Int32), .null, .null, .null, .null])), (q8, aI cy 200 (fun _ => 0)), (q16, aI cy 9 a63), (q70, aI cy 34 a269), (q276, aI cy 31 a323)] := hD
  refine lv_dup hx hb dX12_init_324 rfl ?_
  refine lv_bipush (v := 10) hx hb dX12_init_325 (by decide) ?_
  refine lv_iconst (v := 0) hx hb dX12_init_327 (by decide) ?_
  obtain ⟨a328, ea328⟩ : ∃ y : Nat → Int32, y = upd a323 (10 : Int32).toNatClampNeg (0 : Int32) := ⟨_, rfl⟩
  have hf := zl_of hf a328 ea328
  refine va_iast hx hb hK hP hD hS 4 1 rfl rfl (show vp_in (10 : Int32) 31 by unfold vp_in; decide) dX12_init_328 (fun H locs hP hD hS => ?_)
  rw [← ea328] at hP hD
  have hP : va_P D vwCl [(h, .inr (12, [.ref q8, .int (0 : Int32), .int (0 : Int32), .int (0 : Int32), .int (0 : Int32), .int (0 : Int32), .int (0 : Int32), .int (0 : Int32), .int (0 : Int32), .ref q16, .ref q70, .null, .null, .int (0 : Int32), .null, .null, .null, .null, .null, .null, .int (0 : Int32), .null, .null, .null, .int (0 : Int32), .null, .null, .null, .null])), (q8, aI cy 200 (fun _ => 0)), (q16, aI cy 9 a63), (q70, aI cy 34 a269), (q276, aI cy 31 a328)] H := hP
  have hD : va_D A [(h, .inr (12, [.ref q8, .int (0 : Int32), .int (0 : Int32), .int (0 : Int32), .int (0 : Int32), .int (0 : Int32), .int (0 : Int32), .int (0 : Int32), .int (0 : Int32), .ref q16, .ref q70, .null, .null, .int (0 : Int32), .null, .null, .null, .null, .null, .null, .int (0 : Int32), .null, .null, .null, .int (0 : Int32), .null, .null, .null, .null])), (q8, aI cy 200 (fun _ => 0)), (q16, aI cy 9 a63), (q70, aI cy 34 a269), (q276, aI cy 31 a328)] := hD
  refine lv_dup hx hb dX12_init_329 rfl ?_
  refine lv_bipush (v := 11) hx hb dX12_init_330 (by decide) ?_
  refine lv_iconst (v := 0) hx hb dX12_init_332 (by decide) ?_
  obtain ⟨a333, ea333⟩ : ∃ y : Nat → Int32, y = upd a328 (11 : Int32).toNatClampNeg (0 : Int32) := ⟨_, rfl⟩
  have hf := zl_of hf a333 ea333
  refine va_iast hx hb hK hP hD hS 4 1 rfl rfl (show vp_in (11 : Int32) 31 by unfold vp_in; decide) dX12_init_333 (fun H locs hP hD hS => ?_)
  rw [← ea333] at hP hD
  have hP : va_P D vwCl [(h, .inr (12, [.ref q8, .int (0 : Int32), .int (0 : Int32), .int (0 : Int32), .int (0 : Int32), .int (0 : Int32), .int (0 : Int32), .int (0 : Int32), .int (0 : Int32), .ref q16, .ref q70, .null, .null, .int (0 : Int32), .null, .null, .null, .null, .null, .null, .int (0 : Int32), .null, .null, .null, .int (0 : Int32), .null, .null, .null, .null])), (q8, aI cy 200 (fun _ => 0)), (q16, aI cy 9 a63), (q70, aI cy 34 a269), (q276, aI cy 31 a333)] H := hP
  have hD : va_D A [(h, .inr (12, [.ref q8, .int (0 : Int32), .int (0 : Int32), .int (0 : Int32), .int (0 : Int32), .int (0 : Int32), .int (0 : Int32), .int (0 : Int32), .int (0 : Int32), .ref q16, .ref q70, .null, .null, .int (0 : Int32), .null, .null, .null, .null, .null, .null, .int (0 : Int32), .null, .null, .null, .int (0 : Int32), .null, .null, .null, .null])), (q8, aI cy 200 (fun _ => 0)), (q16, aI cy 9 a63), (q70, aI cy 34 a269), (q276, aI cy 31 a333)] := hD
  refine lv_dup hx hb dX12_init_334 rfl ?_
  refine lv_bipush (v := 12) hx hb dX12_init_335 (by decide) ?_
  refine lv_iconst (v := 0) hx hb dX12_init_337 (by decide) ?_
  obtain ⟨a338, ea338⟩ : ∃ y : Nat → Int32, y = upd a333 (12 : Int32).toNatClampNeg (0 : Int32) := ⟨_, rfl⟩
  have hf := zl_of hf a338 ea338
  refine va_iast hx hb hK hP hD hS 4 1 rfl rfl (show vp_in (12 : Int32) 31 by unfold vp_in; decide) dX12_init_338 (fun H locs hP hD hS => ?_)
  rw [← ea338] at hP hD
  have hP : va_P D vwCl [(h, .inr (12, [.ref q8, .int (0 : Int32), .int (0 : Int32), .int (0 : Int32), .int (0 : Int32), .int (0 : Int32), .int (0 : Int32), .int (0 : Int32), .int (0 : Int32), .ref q16, .ref q70, .null, .null, .int (0 : Int32), .null, .null, .null, .null, .null, .null, .int (0 : Int32), .null, .null, .null, .int (0 : Int32), .null, .null, .null, .null])), (q8, aI cy 200 (fun _ => 0)), (q16, aI cy 9 a63), (q70, aI cy 34 a269), (q276, aI cy 31 a338)] H := hP
  have hD : va_D A [(h, .inr (12, [.ref q8, .int (0 : Int32), .int (0 : Int32), .int (0 : Int32), .int (0 : Int32), .int (0 : Int32), .int (0 : Int32), .int (0 : Int32), .int (0 : Int32), .ref q16, .ref q70, .null, .null, .int (0 : Int32), .null, .null, .null, .null, .null, .null, .int (0 : Int32), .null, .null, .null, .int (0 : Int32), .null, .null, .null, .null])), (q8, aI cy 200 (fun _ => 0)), (q16, aI cy 9 a63), (q70, aI cy 34 a269), (q276, aI cy 31 a338)] := hD
  refine lv_dup hx hb dX12_init_339 rfl ?_
  refine lv_bipush (v := 13) hx hb dX12_init_340 (by decide) ?_
  refine lv_iconst (v := 0) hx hb dX12_init_342 (by decide) ?_
  obtain ⟨a343, ea343⟩ : ∃ y : Nat → Int32, y = upd a338 (13 : Int32).toNatClampNeg (0 : Int32) := ⟨_, rfl⟩
  have hf := zl_of hf a343 ea343
  refine va_iast hx hb hK hP hD hS 4 1 rfl rfl (show vp_in (13 : Int32) 31 by unfold vp_in; decide) dX12_init_343 (fun H locs hP hD hS => ?_)
  rw [← ea343] at hP hD
  have hP : va_P D vwCl [(h, .inr (12, [.ref q8, .int (0 : Int32), .int (0 : Int32), .int (0 : Int32), .int (0 : Int32), .int (0 : Int32), .int (0 : Int32), .int (0 : Int32), .int (0 : Int32), .ref q16, .ref q70, .null, .null, .int (0 : Int32), .null, .null, .null, .null, .null, .null, .int (0 : Int32), .null, .null, .null, .int (0 : Int32), .null, .null, .null, .null])), (q8, aI cy 200 (fun _ => 0)), (q16, aI cy 9 a63), (q70, aI cy 34 a269), (q276, aI cy 31 a343)] H := hP
  have hD : va_D A [(h, .inr (12, [.ref q8, .int (0 : Int32), .int (0 : Int32), .int (0 : Int32), .int (0 : Int32), .int (0 : Int32), .int (0 : Int32), .int (0 : Int32), .int (0 : Int32), .ref q16, .ref q70, .null, .null, .int (0 : Int32), .null, .null, .null, .null, .null, .null, .int (0 : Int32), .null, .null, .null, .int (0 : Int32), .null, .null, .null, .null])), (q8, aI cy 200 (fun _ => 0)), (q16, aI cy 9 a63), (q70, aI cy 34 a269), (q276, aI cy 31 a343)] := hD
  refine lv_dup hx hb dX12_init_344 rfl ?_
  refine lv_bipush (v := 14) hx hb dX12_init_345 (by decide) ?_
  refine lv_iconst (v := 0) hx hb dX12_init_347 (by decide) ?_
  obtain ⟨a348, ea348⟩ : ∃ y : Nat → Int32, y = upd a343 (14 : Int32).toNatClampNeg (0 : Int32) := ⟨_, rfl⟩
  have hf := zl_of hf a348 ea348
  refine va_iast hx hb hK hP hD hS 4 1 rfl rfl (show vp_in (14 : Int32) 31 by unfold vp_in; decide) dX12_init_348 (fun H locs hP hD hS => ?_)
  rw [← ea348] at hP hD
  have hP : va_P D vwCl [(h, .inr (12, [.ref q8, .int (0 : Int32), .int (0 : Int32), .int (0 : Int32), .int (0 : Int32), .int (0 : Int32), .int (0 : Int32), .int (0 : Int32), .int (0 : Int32), .ref q16, .ref q70, .null, .null, .int (0 : Int32), .null, .null, .null, .null, .null, .null, .int (0 : Int32), .null, .null, .null, .int (0 : Int32), .null, .null, .null, .null])), (q8, aI cy 200 (fun _ => 0)), (q16, aI cy 9 a63), (q70, aI cy 34 a269), (q276, aI cy 31 a348)] H := hP
  have hD : va_D A [(h, .inr (12, [.ref q8, .int (0 : Int32), .int (0 : Int32), .int (0 : Int32), .int (0 : Int32), .int (0 : Int32), .int (0 : Int32), .int (0 : Int32), .int (0 : Int32), .ref q16, .ref q70, .null, .null, .int (0 : Int32), .null, .null, .null, .null, .null, .null, .int (0 : Int32), .null, .null, .null, .int (0 : Int32), .null, .null, .null, .null])), (q8, aI cy 200 (fun _ => 0)), (q16, aI cy 9 a63), (q70, aI cy 34 a269), (q276, aI cy 31 a348)] := hD
  refine lv_dup hx hb dX12_init_349 rfl ?_
  refine lv_bipush (v := 15) hx hb dX12_init_350 (by decide) ?_
  refine lv_bipush (v := 10) hx hb dX12_init_352 (by decide) ?_
  obtain ⟨a354, ea354⟩ : ∃ y : Nat → Int32, y = upd a348 (15 : Int32).toNatClampNeg (10 : Int32) := ⟨_, rfl⟩
  have hf := zl_of hf a354 ea354
  refine va_iast hx hb hK hP hD hS 4 1 rfl rfl (show vp_in (15 : Int32) 31 by unfold vp_in; decide) dX12_init_354 (fun H locs hP hD hS => ?_)
  rw [← ea354] at hP hD
  have hP : va_P D vwCl [(h, .inr (12, [.ref q8, .int (0 : Int32), .int (0 : Int32), .int (0 : Int32), .int (0 : Int32), .int (0 : Int32), .int (0 : Int32), .int (0 : Int32), .int (0 : Int32), .ref q16, .ref q70, .null, .null, .int (0 : Int32), .null, .null, .null, .null, .null, .null, .int (0 : Int32), .null, .null, .null, .int (0 : Int32), .null, .null, .null, .null])), (q8, aI cy 200 (fun _ => 0)), (q16, aI cy 9 a63), (q70, aI cy 34 a269), (q276, aI cy 31 a354)] H := hP
  have hD : va_D A [(h, .inr (12, [.ref q8, .int (0 : Int32), .int (0 : Int32), .int (0 : Int32), .int (0 : Int32), .int (0 : Int32), .int (0 : Int32), .int (0 : Int32), .int (0 : Int32), .ref q16, .ref q70, .null, .null, .int (0 : Int32), .null, .null, .null, .null, .null, .null, .int (0 : Int32), .null, .null, .null, .int (0 : Int32), .null, .null, .null, .null])), (q8, aI cy 200 (fun _ => 0)), (q16, aI cy 9 a63), (q70, aI cy 34 a269), (q276, aI cy 31 a354)] := hD
  refine lv_dup hx hb dX12_init_355 rfl ?_
  refine lv_bipush (v := 16) hx hb dX12_init_356 (by decide) ?_
  refine lv_bipush (v := 10) hx hb dX12_init_358 (by decide) ?_
  obtain ⟨a360, ea360⟩ : ∃ y : Nat → Int32, y = upd a354 (16 : Int32).toNatClampNeg (10 : Int32) := ⟨_, rfl⟩
  have hf := zl_of hf a360 ea360
  refine va_iast hx hb hK hP hD hS 4 1 rfl rfl (show vp_in (16 : Int32) 31 by unfold vp_in; decide) dX12_init_360 (fun H locs hP hD hS => ?_)
  rw [← ea360] at hP hD
  have hP : va_P D vwCl [(h, .inr (12, [.ref q8, .int (0 : Int32), .int (0 : Int32), .int (0 : Int32), .int (0 : Int32), .int (0 : Int32), .int (0 : Int32), .int (0 : Int32), .int (0 : Int32), .ref q16, .ref q70, .null, .null, .int (0 : Int32), .null, .null, .null, .null, .null, .null, .int (0 : Int32), .null, .null, .null, .int (0 : Int32), .null, .null, .null, .null])), (q8, aI cy 200 (fun _ => 0)), (q16, aI cy 9 a63), (q70, aI cy 34 a269), (q276, aI cy 31 a360)] H := hP
  have hD : va_D A [(h, .inr (12, [.ref q8, .int (0 : Int32), .int (0 : Int32), .int (0 : Int32), .int (0 : Int32), .int (0 : Int32), .int (0 : Int32), .int (0 : Int32), .int (0 : Int32), .ref q16, .ref q70, .null, .null, .int (0 : Int32), .null, .null, .null, .null, .null, .null, .int (0 : Int32), .null, .null, .null, .int (0 : Int32), .null, .null, .null, .null])), (q8, aI cy 200 (fun _ => 0)), (q16, aI cy 9 a63), (q70, aI cy 34 a269), (q276, aI cy 31 a360)] := hD
  refine lv_dup hx hb dX12_init_361 rfl ?_
  refine lv_bipush (v := 17) hx hb dX12_init_362 (by decide) ?_
  refine lv_bipush (v := 10) hx hb dX12_init_364 (by decide) ?_
  obtain ⟨a366, ea366⟩ : ∃ y : Nat → Int32, y = upd a360 (17 : Int32).toNatClampNeg (10 : Int32) := ⟨_, rfl⟩
  have hf := zl_of hf a366 ea366
  refine va_iast hx hb hK hP hD hS 4 1 rfl rfl (show vp_in (17 : Int32) 31 by unfold vp_in; decide) dX12_init_366 (fun H locs hP hD hS => ?_)
  rw [← ea366] at hP hD
  have hP : va_P D vwCl [(h, .inr (12, [.ref q8, .int (0 : Int32), .int (0 : Int32), .int (0 : Int32), .int (0 : Int32), .int (0 : Int32), .int (0 : Int32), .int (0 : Int32), .int (0 : Int32), .ref q16, .ref q70, .null, .null, .int (0 : Int32), .null, .null, .null, .null, .null, .null, .int (0 : Int32), .null, .null, .null, .int (0 : Int32), .null, .null, .null, .null])), (q8, aI cy 200 (fun _ => 0)), (q16, aI cy 9 a63), (q70, aI cy 34 a269), (q276, aI cy 31 a366)] H := hP
  have hD : va_D A [(h, .inr (12, [.ref q8, .int (0 : Int32), .int (0 : Int32), .int (0 : Int32), .int (0 : Int32), .int (0 : Int32), .int (0 : Int32), .int (0 : Int32), .int (0 : Int32), .ref q16, .ref q70, .null, .null, .int (0 : Int32), .null, .null, .null, .null, .null, .null, .int (0 : Int32), .null, .null, .null, .int (0 : Int32), .null, .null, .null, .null])), (q8, aI cy 200 (fun _ => 0)), (q16, aI cy 9 a63), (q70, aI cy 34 a269), (q276, aI cy 31 a366)] := hD
  refine lv_dup hx hb dX12_init_367 rfl ?_
  refine lv_bipush (v := 18) hx hb dX12_init_368 (by decide) ?_
  refine lv_bipush (v := 10) hx hb dX12_init_370 (by decide) ?_
  obtain ⟨a372, ea372⟩ : ∃ y : Nat → Int32, y = upd a366 (18 : Int32).toNatClampNeg (10 : Int32) := ⟨_, rfl⟩
  have hf := zl_of hf a372 ea372
  refine va_iast hx hb hK hP hD hS 4 1 rfl rfl (show vp_in (18 : Int32) 31 by unfold vp_in; decide) dX12_init_372 (fun H locs hP hD hS => ?_)
  rw [← ea372] at hP hD
  have hP : va_P D vwCl [(h, .inr (12, [.ref q8, .int (0 : Int32), .int (0 : Int32), .int (0 : Int32), .int (0 : Int32), .int (0 : Int32), .int (0 : Int32), .int (0 : Int32), .int (0 : Int32), .ref q16, .ref q70, .null, .null, .int (0 : Int32), .null, .null, .null, .null, .null, .null, .int (0 : Int32), .null, .null, .null, .int (0 : Int32), .null, .null, .null, .null])), (q8, aI cy 200 (fun _ => 0)), (q16, aI cy 9 a63), (q70, aI cy 34 a269), (q276, aI cy 31 a372)] H := hP
  have hD : va_D A [(h, .inr (12, [.ref q8, .int (0 : Int32), .int (0 : Int32), .int (0 : Int32), .int (0 : Int32), .int (0 : Int32), .int (0 : Int32), .int (0 : Int32), .int (0 : Int32), .ref q16, .ref q70, .null, .null, .int (0 : Int32), .null, .null, .null, .null, .null, .null, .int (0 : Int32), .null, .null, .null, .int (0 : Int32), .null, .null, .null, .null])), (q8, aI cy 200 (fun _ => 0)), (q16, aI cy 9 a63), (q70, aI cy 34 a269), (q276, aI cy 31 a372)] := hD
  refine lv_dup hx hb dX12_init_373 rfl ?_
  refine lv_bipush (v := 19) hx hb dX12_init_374 (by decide) ?_
  refine lv_bipush (v := 10) hx hb dX12_init_376 (by decide) ?_
  obtain ⟨a378, ea378⟩ : ∃ y : Nat → Int32, y = upd a372 (19 : Int32).toNatClampNeg (10 : Int32) := ⟨_, rfl⟩
  have hf := zl_of hf a378 ea378
  refine va_iast hx hb hK hP hD hS 4 1 rfl rfl (show vp_in (19 : Int32) 31 by unfold vp_in; decide) dX12_init_378 (fun H locs hP hD hS => ?_)
  rw [← ea378] at hP hD
  have hP : va_P D vwCl [(h, .inr (12, [.ref q8, .int (0 : Int32), .int (0 : Int32), .int (0 : Int32), .int (0 : Int32), .int (0 : Int32), .int (0 : Int32), .int (0 : Int32), .int (0 : Int32), .ref q16, .ref q70, .null, .null, .int (0 : Int32), .null, .null, .null, .null, .null, .null, .int (0 : Int32), .null, .null, .null, .int (0 : Int32), .null, .null, .null, .null])), (q8, aI cy 200 (fun _ => 0)), (q16, aI cy 9 a63), (q70, aI cy 34 a269), (q276, aI cy 31 a378)] H := hP
  have hD : va_D A [(h, .inr (12, [.ref q8, .int (0 : Int32), .int (0 : Int32), .int (0 : Int32), .int (0 : Int32), .int (0 : Int32), .int (0 : Int32), .int (0 : Int32), .int (0 : Int32), .ref q16, .ref q70, .null, .null, .int (0 : Int32), .null, .null, .null, .null, .null, .null, .int (0 : Int32), .null, .null, .null, .int (0 : Int32), .null, .null, .null, .null])), (q8, aI cy 200 (fun _ => 0)), (q16, aI cy 9 a63), (q70, aI cy 34 a269), (q276, aI cy 31 a378)] := hD
  refine lv_dup hx hb dX12_init_379 rfl ?_
  refine lv_bipush (v := 20) hx hb dX12_init_380 (by decide) ?_
  refine lv_bipush (v := 10) hx hb dX12_init_382 (by decide) ?_
  obtain ⟨a384, ea384⟩ : ∃ y : Nat → Int32, y = upd a378 (20 : Int32).toNatClampNeg (10 : Int32) := ⟨_, rfl⟩
  have hf := zl_of hf a384 ea384
  refine va_iast hx hb hK hP hD hS 4 1 rfl rfl (show vp_in (20 : Int32) 31 by unfold vp_in; decide) dX12_init_384 (fun H locs hP hD hS => ?_)
  rw [← ea384] at hP hD
  have hP : va_P D vwCl [(h, .inr (12, [.ref q8, .int (0 : Int32), .int (0 : Int32), .int (0 : Int32), .int (0 : Int32), .int (0 : Int32), .int (0 : Int32), .int (0 : Int32), .int (0 : Int32), .ref q16, .ref q70, .null, .null, .int (0 : Int32), .null, .null, .null, .null, .null, .null, .int (0 : Int32), .null, .null, .null, .int (0 : Int32), .null, .null, .null, .null])), (q8, aI cy 200 (fun _ => 0)), (q16, aI cy 9 a63), (q70, aI cy 34 a269), (q276, aI cy 31 a384)] H := hP
  have hD : va_D A [(h, .inr (12, [.ref q8, .int (0 : Int32), .int (0 : Int32), .int (0 : Int32), .int (0 : Int32), .int (0 : Int32), .int (0 : Int32), .int (0 : Int32), .int (0 : Int32), .ref q16, .ref q70, .null, .null, .int (0 : Int32), .null, .null, .null, .null, .null, .null, .int (0 : Int32), .null, .null, .null, .int (0 : Int32), .null, .null, .null, .null])), (q8, aI cy 200 (fun _ => 0)), (q16, aI cy 9 a63), (q70, aI cy 34 a269), (q276, aI cy 31 a384)] := hD
  refine lv_dup hx hb dX12_init_385 rfl ?_
  refine lv_bipush (v := 21) hx hb dX12_init_386 (by decide) ?_
  refine lv_bipush (v := 10) hx hb dX12_init_388 (by decide) ?_
  obtain ⟨a390, ea390⟩ : ∃ y : Nat → Int32, y = upd a384 (21 : Int32).toNatClampNeg (10 : Int32) := ⟨_, rfl⟩
  have hf := zl_of hf a390 ea390
  refine va_iast hx hb hK hP hD hS 4 1 rfl rfl (show vp_in (21 : Int32) 31 by unfold vp_in; decide) dX12_init_390 (fun H locs hP hD hS => ?_)
  rw [← ea390] at hP hD
  have hP : va_P D vwCl [(h, .inr (12, [.ref q8, .int (0 : Int32), .int (0 : Int32), .int (0 : Int32), .int (0 : Int32), .int (0 : Int32), .int (0 : Int32), .int (0 : Int32), .int (0 : Int32), .ref q16, .ref q70, .null, .null, .int (0 : Int32), .null, .null, .null, .null, .null, .null, .int (0 : Int32), .null, .null, .null, .int (0 : Int32), .null, .null, .null, .null])), (q8, aI cy 200 (fun _ => 0)), (q16, aI cy 9 a63), (q70, aI cy 34 a269), (q276, aI cy 31 a390)] H := hP
  have hD : va_D A [(h, .inr (12, [.ref q8, .int (0 : Int32), .int (0 : Int32), .int (0 : Int32), .int (0 : Int32), .int (0 : Int32), .int (0 : Int32), .int (0 : Int32), .int (0 : Int32), .ref q16, .ref q70, .null, .null, .int (0 : Int32), .null, .null, .null, .null, .null, .null, .int (0 : Int32), .null, .null, .null, .int (0 : Int32), .null, .null, .null, .null])), (q8, aI cy 200 (fun _ => 0)), (q16, aI cy 9 a63), (q70, aI cy 34 a269), (q276, aI cy 31 a390)] := hD
  refine lv_dup hx hb dX12_init_391 rfl ?_
  refine lv_bipush (v := 22) hx hb dX12_init_392 (by decide) ?_
  refine lv_bipush (v := 10) hx hb dX12_init_394 (by decide) ?_
  obtain ⟨a396, ea396⟩ : ∃ y : Nat → Int32, y = upd a390 (22 : Int32).toNatClampNeg (10 : Int32) := ⟨_, rfl⟩
  have hf := zl_of hf a396 ea396
  refine va_iast hx hb hK hP hD hS 4 1 rfl rfl (show vp_in (22 : Int32) 31 by unfold vp_in; decide) dX12_init_396 (fun H locs hP hD hS => ?_)
  rw [← ea396] at hP hD
  have hP : va_P D vwCl [(h, .inr (12, [.ref q8, .int (0 : Int32), .int (0 : Int32), .int (0 : Int32), .int (0 : Int32), .int (0 : Int32), .int (0 : Int32), .int (0 : Int32), .int (0 : Int32), .ref q16, .ref q70, .null, .null, .int (0 : Int32), .null, .null, .null, .null, .null, .null, .int (0 : Int32), .null, .null, .null, .int (0 : Int32), .null, .null, .null, .null])), (q8, aI cy 200 (fun _ => 0)), (q16, aI cy 9 a63), (q70, aI cy 34 a269), (q276, aI cy 31 a396)] H := hP
  have hD : va_D A [(h, .inr (12, [.ref q8, .int (0 : Int32), .int (0 : Int32), .int (0 : Int32), .int (0 : Int32), .int (0 : Int32), .int (0 : Int32), .int (0 : Int32), .int (0 : Int32), .ref q16, .ref q70, .null, .null, .int (0 : Int32), .null, .null, .null, .null, .null, .null, .int (0 : Int32), .null, .null, .null, .int (0 : Int32), .null, .null, .null, .null])), (q8, aI cy 200 (fun _ => 0)), (q16, aI cy 9 a63), (q70, aI cy 34 a269), (q276, aI cy 31 a396)] := hD
  refine lv_dup hx hb dX12_init_397 rfl ?_
  refine lv_bipush (v := 23) hx hb dX12_init_398 (by decide) ?_
  refine lv_bipush (v := 10) hx hb dX12_init_400 (by decide) ?_
  obtain ⟨a402, ea402⟩ : ∃ y : Nat → Int32, y = upd a396 (23 : Int32).toNatClampNeg (10 : Int32) := ⟨_, rfl⟩
  have hf := zl_of hf a402 ea402
  refine va_iast hx hb hK hP hD hS 4 1 rfl rfl (show vp_in (23 : Int32) 31 by unfold vp_in; decide) dX12_init_402 (fun H locs hP hD hS => ?_)
  rw [← ea402] at hP hD
  have hP : va_P D vwCl [(h, .inr (12, [.ref q8, .int (0 : Int32), .int (0 : Int32), .int (0 : Int32), .int (0 : Int32), .int (0 : Int32), .int (0 : Int32), .int (0 : Int32), .int (0 : Int32), .ref q16, .ref q70, .null, .null, .int (0 : Int32), .null, .null, .null, .null, .null, .null, .int (0 : Int32), .null, .null, .null, .int (0 : Int32), .null, .null, .null, .null])), (q8, aI cy 200 (fun _ => 0)), (q16, aI cy 9 a63), (q70, aI cy 34 a269), (q276, aI cy 31 a402)] H := hP
  have hD : va_D A [(h, .inr (12, [.ref q8, .int (0 : Int32), .int (0 : Int32), .int (0 : Int32), .int (0 : Int32), .int (0 : Int32), .int (0 : Int32), .int (0 : Int32), .int (0 : Int32), .ref q16, .ref q70, .null, .null, .int (0 : Int32), .null, .null, .null, .null, .null, .null, .int (0 : Int32), .null, .null, .null, .int (0 : Int32), .null, .null, .null, .null])), (q8, aI cy 200 (fun _ => 0)), (q16, aI cy 9 a63), (q70, aI cy 34 a269), (q276, aI cy 31 a402)] := hD
  refine lv_dup hx hb dX12_init_403 rfl ?_
  refine lv_bipush (v := 24) hx hb dX12_init_404 (by decide) ?_
  refine lv_bipush (v := 10) hx hb dX12_init_406 (by decide) ?_
  obtain ⟨a408, ea408⟩ : ∃ y : Nat → Int32, y = upd a402 (24 : Int32).toNatClampNeg (10 : Int32) := ⟨_, rfl⟩
  have hf := zl_of hf a408 ea408
  refine va_iast hx hb hK hP hD hS 4 1 rfl rfl (show vp_in (24 : Int32) 31 by unfold vp_in; decide) dX12_init_408 (fun H locs hP hD hS => ?_)
  rw [← ea408] at hP hD
  have hP : va_P D vwCl [(h, .inr (12, [.ref q8, .int (0 : Int32), .int (0 : Int32), .int (0 : Int32), .int (0 : Int32), .int (0 : Int32), .int (0 : Int32), .int (0 : Int32), .int (0 : Int32), .ref q16, .ref q70, .null, .null, .int (0 : Int32), .null, .null, .null, .null, .null, .null, .int (0 : Int32), .null, .null, .null, .int (0 : Int32), .null, .null, .null, .null])), (q8, aI cy 200 (fun _ => 0)), (q16, aI cy 9 a63), (q70, aI cy 34 a269), (q276, aI cy 31 a408)] H := hP
  have hD : va_D A [(h, .inr (12, [.ref q8, .int (0 : Int32), .int (0 : Int32), .int (0 : Int32), .int (0 : Int32), .int (0 : Int32), .int (0 : Int32), .int (0 : Int32), .int (0 : Int32), .ref q16, .ref q70, .null, .null, .int (0 : Int32), .null, .null, .null, .null, .null, .null, .int (0 : Int32), .null, .null, .null, .int (0 : Int32), .null, .null, .null, .null])), (q8, aI cy 200 (fun _ => 0)), (q16, aI cy 9 a63), (q70, aI cy 34 a269), (q276, aI cy 31 a408)] := hD
  refine lv_dup hx hb dX12_init_409 rfl ?_
  refine lv_bipush (v := 25) hx hb dX12_init_410 (by decide) ?_
  refine lv_bipush (v := 10) hx hb dX12_init_412 (by decide) ?_
  obtain ⟨a414, ea414⟩ : ∃ y : Nat → Int32, y = upd a408 (25 : Int32).toNatClampNeg (10 : Int32) := ⟨_, rfl⟩
  have hf := zl_of hf a414 ea414
  refine va_iast hx hb hK hP hD hS 4 1 rfl rfl (show vp_in (25 : Int32) 31 by unfold vp_in; decide) dX12_init_414 (fun H locs hP hD hS => ?_)
  rw [← ea414] at hP hD
  have hP : va_P D vwCl [(h, .inr (12, [.ref q8, .int (0 : Int32), .int (0 : Int32), .int (0 : Int32), .int (0 : Int32), .int (0 : Int32), .int (0 : Int32), .int (0 : Int32), .int (0 : Int32), .ref q16, .ref q70, .null, .null, .int (0 : Int32), .null, .null, .null, .null, .null, .null, .int (0 : Int32), .null, .null, .null, .int (0 : Int32), .null, .null, .null, .null])), (q8, aI cy 200 (fun _ => 0)), (q16, aI cy 9 a63), (q70, aI cy 34 a269), (q276, aI cy 31 a414)] H := hP
  have hD : va_D A [(h, .inr (12, [.ref q8, .int (0 : Int32), .int (0 : Int32), .int (0 : Int32), .int (0 : Int32), .int (0 : Int32), .int (0 : Int32), .int (0 : Int32), .int (0 : Int32), .ref q16, .ref q70, .null, .null, .int (0 : Int32), .null, .null, .null, .null, .null, .null, .int (0 : Int32), .null, .null, .null, .int (0 : Int32), .null, .null, .null, .null])), (q8, aI cy 200 (fun _ => 0)), (q16, aI cy 9 a63), (q70, aI cy 34 a269), (q276, aI cy 31 a414)] := hD
  refine lv_dup hx hb dX12_init_415 rfl ?_
  refine lv_bipush (v := 26) hx hb dX12_init_416 (by decide) ?_
  refine lv_bipush (v := 10) hx hb dX12_init_418 (by decide) ?_
  obtain ⟨a420, ea420⟩ : ∃ y : Nat → Int32, y = upd a414 (26 : Int32).toNatClampNeg (10 : Int32) := ⟨_, rfl⟩
  have hf := zl_of hf a420 ea420
  refine va_iast hx hb hK hP hD hS 4 1 rfl rfl (show vp_in (26 : Int32) 31 by unfold vp_in; decide) dX12_init_420 (fun H locs hP hD hS => ?_)
  rw [← ea420] at hP hD
  have hP : va_P D vwCl [(h, .inr (12, [.ref q8, .int (0 : Int32), .int (0 : Int32), .int (0 : Int32), .int (0 : Int32), .int (0 : Int32), .int (0 : Int32), .int (0 : Int32), .int (0 : Int32), .ref q16, .ref q70, .null, .null, .int (0 : Int32), .null, .null, .null, .null, .null, .null, .int (0 : Int32), .null, .null, .null, .int (0 : Int32), .null, .null, .null, .null])), (q8, aI cy 200 (fun _ => 0)), (q16, aI cy 9 a63), (q70, aI cy 34 a269), (q276, aI cy 31 a420)] H := hP
  have hD : va_D A [(h, .inr (12, [.ref q8, .int (0 : Int32), .int (0 : Int32), .int (0 : Int32), .int (0 : Int32), .int (0 : Int32), .int (0 : Int32), .int (0 : Int32), .int (0 : Int32), .ref q16, .ref q70, .null, .null, .int (0 : Int32), .null, .null, .null, .null, .null, .null, .int (0 : Int32), .null, .null, .null, .int (0 : Int32), .null, .null, .null, .null])), (q8, aI cy 200 (fun _ => 0)), (q16, aI cy 9 a63), (q70, aI cy 34 a269), (q276, aI cy 31 a420)] := hD
  refine lv_dup hx hb dX12_init_421 rfl ?_
  refine lv_bipush (v := 27) hx hb dX12_init_422 (by decide) ?_
  refine lv_bipush (v := 10) hx hb dX12_init_424 (by decide) ?_
  obtain ⟨a426, ea426⟩ : ∃ y : Nat → Int32, y = upd a420 (27 : Int32).toNatClampNeg (10 : Int32) := ⟨_, rfl⟩
  have hf := zl_of hf a426 ea426
  refine va_iast hx hb hK hP hD hS 4 1 rfl rfl (show vp_in (27 : Int32) 31 by unfold vp_in; decide) dX12_init_426 (fun H locs hP hD hS => ?_)
  rw [← ea426] at hP hD
  have hP : va_P D vwCl [(h, .inr (12, [.ref q8, .int (0 : Int32), .int (0 : Int32), .int (0 : Int32), .int (0 : Int32), .int (0 : Int32), .int (0 : Int32), .int (0 : Int32), .int (0 : Int32), .ref q16, .ref q70, .null, .null, .int (0 : Int32), .null, .null, .null, .null, .null, .null, .int (0 : Int32), .null, .null, .null, .int (0 : Int32), .null, .null, .null, .null])), (q8, aI cy 200 (fun _ => 0)), (q16, aI cy 9 a63), (q70, aI cy 34 a269), (q276, aI cy 31 a426)] H := hP
  have hD : va_D A [(h, .inr (12, [.ref q8, .int (0 : Int32), .int (0 : Int32), .int (0 : Int32), .int (0 : Int32), .int (0 : Int32), .int (0 : Int32), .int (0 : Int32), .int (0 : Int32), .ref q16, .ref q70, .null, .null, .int (0 : Int32), .null, .null, .null, .null, .null, .null, .int (0 : Int32), .null, .null, .null, .int (0 : Int32), .null, .null, .null, .null])), (q8, aI cy 200 (fun _ => 0)), (q16, aI cy 9 a63), (q70, aI cy 34 a269), (q276, aI cy 31 a426)] := hD
  refine lv_dup hx hb dX12_init_427 rfl ?_
  refine lv_bipush (v := 28) hx hb dX12_init_428 (by decide) ?_
  refine lv_bipush (v := 10) hx hb dX12_init_430 (by decide) ?_
  obtain ⟨a432, ea432⟩ : ∃ y : Nat → Int32, y = upd a426 (28 : Int32).toNatClampNeg (10 : Int32) := ⟨_, rfl⟩
  have hf := zl_of hf a432 ea432
  refine va_iast hx hb hK hP hD hS 4 1 rfl rfl (show vp_in (28 : Int32) 31 by unfold vp_in; decide) dX12_init_432 (fun H locs hP hD hS => ?_)
  rw [← ea432] at hP hD
  have hP : va_P D vwCl [(h, .inr (12, [.ref q8, .int (0 : Int32), .int (0 : Int32), .int (0 : Int32), .int (0 : Int32), .int (0 : Int32), .int (0 : Int32), .int (0 : Int32), .int (0 : Int32), .ref q16, .ref q70, .null, .null, .int (0 : Int32), .null, .null, .null, .null, .null, .null, .int (0 : Int32), .null, .null, .null, .int (0 : Int32), .null, .null, .null, .null])), (q8, aI cy 200 (fun _ => 0)), (q16, aI cy 9 a63), (q70, aI cy 34 a269), (q276, aI cy 31 a432)] H := hP
  have hD : va_D A [(h, .inr (12, [.ref q8, .int (0 : Int32), .int (0 : Int32), .int (0 : Int32), .int (0 : Int32), .int (0 : Int32), .int (0 : Int32), .int (0 : Int32), .int (0 : Int32), .ref q16, .ref q70, .null, .null, .int (0 : Int32), .null, .null, .null, .null, .null, .null, .int (0 : Int32), .null, .null, .null, .int (0 : Int32), .null, .null, .null, .null])), (q8, aI cy 200 (fun _ => 0)), (q16, aI cy 9 a63), (q70, aI cy 34 a269), (q276, aI cy 31 a432)] := hD
  refine lv_dup hx hb dX12_init_433 rfl ?_
  refine lv_bipush (v := 29) hx hb dX12_init_434 (by decide) ?_
  refine lv_bipush (v := 10) hx hb dX12_init_436 (by decide) ?_
  obtain ⟨a438, ea438⟩ : ∃ y : Nat → Int32, y = upd a432 (29 : Int32).toNatClampNeg (10 : Int32) := ⟨_, rfl⟩
  have hf := zl_of hf a438 ea438
  refine va_iast hx hb hK hP hD hS 4 1 rfl rfl (show vp_in (29 : Int32) 31 by unfold vp_in; decide) dX12_init_438 (fun H locs hP hD hS => ?_)
  rw [← ea438] at hP hD
  have hP : va_P D vwCl [(h, .inr (12, [.ref q8, .int (0 : Int32), .int (0 : Int32), .int (0 : Int32), .int (0 : Int32), .int (0 : Int32), .int (0 : Int32), .int (0 : Int32), .int (0 : Int32), .ref q16, .ref q70, .null, .null, .int (0 : Int32), .null, .null, .null, .null, .null, .null, .int (0 : Int32), .null, .null, .null, .int (0 : Int32), .null, .null, .null, .null])), (q8, aI cy 200 (fun _ => 0)), (q16, aI cy 9 a63), (q70, aI cy 34 a269), (q276, aI cy 31 a438)] H := hP
  have hD : va_D A [(h, .inr (12, [.ref q8, .int (0 : Int32), .int (0 : Int32), .int (0 : Int32), .int (0 : Int32), .int (0 : Int32), .int (0 : Int32), .int (0 : Int32), .int (0 : Int32), .ref q16, .ref q70, .null, .null, .int (0 : Int32), .null, .null, .null, .null, .null, .null, .int (0 : Int32), .null, .null, .null, .int (0 : Int32), .null, .null, .null, .null])), (q8, aI cy 200 (fun _ => 0)), (q16, aI cy 9 a63), (q70, aI cy 34 a269), (q276, aI cy 31 a438)] := hD
  refine lv_dup hx hb dX12_init_439 rfl ?_
  refine lv_bipush (v := 30) hx hb dX12_init_440 (by decide) ?_
  refine lv_bipush (v := 10) hx hb dX12_init_442 (by decide) ?_
  obtain ⟨a444, ea444⟩ : ∃ y : Nat → Int32, y = upd a438 (30 : Int32).toNatClampNeg (10 : Int32) := ⟨_, rfl⟩
  have hf := zl_of hf a444 ea444
  refine va_iast hx hb hK hP hD hS 4 1 rfl rfl (show vp_in (30 : Int32) 31 by unfold vp_in; decide) dX12_init_444 (fun H locs hP hD hS => ?_)
  rw [← ea444] at hP hD
  have hP : va_P D vwCl [(h, .inr (12, [.ref q8, .int (0 : Int32), .int (0 : Int32), .int (0 : Int32), .int (0 : Int32), .int (0 : Int32), .int (0 : Int32), .int (0 : Int32), .int (0 : Int32), .ref q16, .ref q70, .null, .null, .int (0 : Int32), .null, .null, .null, .null, .null, .null, .int (0 : Int32), .null, .null, .null, .int (0 : Int32), .null, .null, .null, .null])), (q8, aI cy 200 (fun _ => 0)), (q16, aI cy 9 a63), (q70, aI cy 34 a269), (q276, aI cy 31 a444)] H := hP
  have hD : va_D A [(h, .inr (12, [.ref q8, .int (0 : Int32), .int (0 : Int32), .int (0 : Int32), .int (0 : Int32), .int (0 : Int32), .int (0 : Int32), .int (0 : Int32), .int (0 : Int32), .ref q16, .ref q70, .null, .null, .int (0 : Int32), .null, .null, .null, .null, .null, .null, .int (0 : Int32), .null, .null, .null, .int (0 : Int32), .null, .null, .null, .null])), (q8, aI cy 200 (fun _ => 0)), (q16, aI cy 9 a63), (q70, aI cy 34 a269), (q276, aI cy 31 a444)] := hD
  refine va_putF (D := D) (ci := 12) (v := .ref q276) (ty := (.array .int)) (C := RX12) (T := TX12) (N := 29) hx hb hts ui_X12 tyX12 tyX12_ok nmX12 hown hK hP hD hS 0 rfl rfl 11 (by decide) (hts _ fl_X12_19) (fun _ h9 => h9) rfl hin rfl (by decide +kernel) rfl rfl (Nat.le_of_ble_eq_true rfl) dX12_init_445 (fun H locs hP hD hS => ?_)
  have hP : va_P D vwCl [(h, .inr (12, [.ref q8, .int (0 : Int32), .int (0 : Int32), .int (0 : Int32), .int (0 : Int32), .int (0 : Int32), .int (0 : Int32), .int (0 : Int32), .int (0 : Int32), .ref q16, .ref q70, .ref q276, .null, .int (0 : Int32), .null, .null, .null, .null, .null, .null, .int (0 : Int32), .null, .null, .null, .int (0 : Int32), .null, .null, .null, .null])), (q8, aI cy 200 (fun _ => 0)), (q16, aI cy 9 a63), (q70, aI cy 34 a269), (q276, aI cy 31 a444)] H := hP
  have hD : va_D A [(h, .inr (12, [.ref q8, .int (0 : Int32), .int (0 : Int32), .int (0 : Int32), .int (0 : Int32), .int (0 : Int32), .int (0 : Int32), .int (0 : Int32), .int (0 : Int32), .ref q16, .ref q70, .ref q276, .null, .int (0 : Int32), .null, .null, .null, .null, .null, .null, .int (0 : Int32), .null, .null, .null, .int (0 : Int32), .null, .null, .null, .null])), (q8, aI cy 200 (fun _ => 0)), (q16, aI cy 9 a63), (q70, aI cy 34 a269), (q276, aI cy 31 a444)] := hD
  refine lv_aload_n hx hb dX12_init_448 rfl (lv_at hl 0 rfl) ?_
  refine lv_bipush (v := 31) hx hb dX12_init_449 (by decide) ?_
  refine newI C hP hD hS (by decide) rfl (Nat.le_of_ble_eq_true rfl) (Nat.le_of_ble_eq_true rfl) (Nat.le_of_ble_eq_true rfl) dX12_init_451 (fun q451 H hP hD hS => ?_)
  have hP : va_P D vwCl [(h, .inr (12, [.ref q8, .int (0 : Int32), .int (0 : Int32), .int (0 : Int32), .int (0 : Int32), .int (0 : Int32), .int (0 : Int32), .int (0 : Int32), .int (0 : Int32), .ref q16, .ref q70, .ref q276, .null, .int (0 : Int32), .null, .null, .null, .null, .null, .null, .int (0 : Int32), .null, .null, .null, .int (0 : Int32), .null, .null, .null, .null])), (q8, aI cy 200 (fun _ => 0)), (q16, aI cy 9 a63), (q70, aI cy 34 a269), (q276, aI cy 31 a444), (q451, aI cy 31 (fun _ => 0))] H := hP
  have hD : va_D A [(h, .inr (12, [.ref q8, .int (0 : Int32), .int (0 : Int32), .int (0 : Int32), .int (0 : Int32), .int (0 : Int32), .int (0 : Int32), .int (0 : Int32), .int (0 : Int32), .ref q16, .ref q70, .ref q276, .null, .int (0 : Int32), .null, .null, .null, .null, .null, .null, .int (0 : Int32), .null, .null, .null, .int (0 : Int32), .null, .null, .null, .null])), (q8, aI cy 200 (fun _ => 0)), (q16, aI cy 9 a63), (q70, aI cy 34 a269), (q276, aI cy 31 a444), (q451, aI cy 31 (fun _ => 0))] := hD
  refine W.widen (k := 5) (n := 305) (Nat.le_refl _) (Nat.le_refl _) ?_
  refine va_putF (D := D) (ci := 12) (v := .ref q451) (ty := (.array .int)) (C := RX12) (T := TX12) (N := 29) hx hb hts ui_X12 tyX12 tyX12_ok nmX12 hown hK hP hD hS 0 rfl rfl 12 (by decide) (hts _ fl_X12_22) (fun _ h9 => h9) rfl hin rfl (by decide +kernel) rfl rfl (Nat.le_of_ble_eq_true rfl) dX12_init_453 (fun H locs hP hD hS => ?_)
  have hP : va_P D vwCl [(h, .inr (12, [.ref q8, .int (0 : Int32), .int (0 : Int32), .int (0 : Int32), .int (0 : Int32), .int (0 : Int32), .int (0 : Int32), .int (0 : Int32), .int (0 : Int32), .ref q16, .ref q70, .ref q276, .ref q451, .int (0 : Int32), .null, .null, .null, .null, .null, .null, .int (0 : Int32), .null, .null, .null, .int (0 : Int32), .null, .null, .null, .null])), (q8, aI cy 200 (fun _ => 0)), (q16, aI cy 9 a63), (q70, aI cy 34 a269), (q276, aI cy 31 a444), (q451, aI cy 31 (fun _ => 0))] H := hP
  have hD : va_D A [(h, .inr (12, [.ref q8, .int (0 : Int32), .int (0 : Int32), .int (0 : Int32), .int (0 : Int32), .int (0 : Int32), .int (0 : Int32), .int (0 : Int32), .int (0 : Int32), .ref q16, .ref q70, .ref q276, .ref q451, .int (0 : Int32), .null, .null, .null, .null, .null, .null, .int (0 : Int32), .null, .null, .null, .int (0 : Int32), .null, .null, .null, .null])), (q8, aI cy 200 (fun _ => 0)), (q16, aI cy 9 a63), (q70, aI cy 34 a269), (q276, aI cy 31 a444), (q451, aI cy 31 (fun _ => 0))] := hD
  refine lv_aload_n hx hb dX12_init_456 rfl (lv_at hl 0 rfl) ?_
  refine lv_sipush (v := 256) hx hb dX12_init_457 (by decide) ?_
  refine newI C hP hD hS (by decide) rfl (Nat.le_of_ble_eq_true rfl) (Nat.le_of_ble_eq_true rfl) (Nat.le_of_ble_eq_true rfl) dX12_init_460 (fun q460 H hP hD hS => ?_)
  have hP : va_P D vwCl [(h, .inr (12, [.ref q8, .int (0 : Int32), .int (0 : Int32), .int (0 : Int32), .int (0 : Int32), .int (0 : Int32), .int (0 : Int32), .int (0 : Int32), .int (0 : Int32), .ref q16, .ref q70, .ref q276, .ref q451, .int (0 : Int32), .null, .null, .null, .null, .null, .null, .int (0 : Int32), .null, .null, .null, .int (0 : Int32), .null, .null, .null, .null])), (q8, aI cy 200 (fun _ => 0)), (q16, aI cy 9 a63), (q70, aI cy 34 a269), (q276, aI cy 31 a444), (q451, aI cy 31 (fun _ => 0)), (q460, aI cy 256 (fun _ => 0))] H := hP
  have hD : va_D A [(h, .inr (12, [.ref q8, .int (0 : Int32), .int (0 : Int32), .int (0 : Int32), .int (0 : Int32), .int (0 : Int32), .int (0 : Int32), .int (0 : Int32), .int (0 : Int32), .ref q16, .ref q70, .ref q276, .ref q451, .int (0 : Int32), .null, .null, .null, .null, .null, .null, .int (0 : Int32), .null, .null, .null, .int (0 : Int32), .null, .null, .null, .null])), (q8, aI cy 200 (fun _ => 0)), (q16, aI cy 9 a63), (q70, aI cy 34 a269), (q276, aI cy 31 a444), (q451, aI cy 31 (fun _ => 0)), (q460, aI cy 256 (fun _ => 0))] := hD
  refine W.widen (k := 6) (n := 561) (Nat.le_refl _) (Nat.le_refl _) ?_
  refine va_putF (D := D) (ci := 12) (v := .ref q460) (ty := (.array .int)) (C := RX12) (T := TX12) (N := 29) hx hb hts ui_X12 tyX12 tyX12_ok nmX12 hown hK hP hD hS 0 rfl rfl 14 (by decide) (hts _ fl_X12_25) (fun _ h9 => h9) rfl hin rfl (by decide +kernel) rfl rfl (Nat.le_of_ble_eq_true rfl) dX12_init_462 (fun H locs hP hD hS => ?_)
  have hP : va_P D vwCl [(h, .inr (12, [.ref q8, .int (0 : Int32), .int (0 : Int32), .int (0 : Int32), .int (0 : Int32), .int (0 : Int32), .int (0 : Int32), .int (0 : Int32), .int (0 : Int32), .ref q16, .ref q70, .ref q276, .ref q451, .int (0 : Int32), .ref q460, .null, .null, .null, .null, .null, .int (0 : Int32), .null, .null, .null, .int (0 : Int32), .null, .null, .null, .null])), (q8, aI cy 200 (fun _ => 0)), (q16, aI cy 9 a63), (q70, aI cy 34 a269), (q276, aI cy 31 a444), (q451, aI cy 31 (fun _ => 0)), (q460, aI cy 256 (fun _ => 0))] H := hP
  have hD : va_D A [(h, .inr (12, [.ref q8, .int (0 : Int32), .int (0 : Int32), .int (0 : Int32), .int (0 : Int32), .int (0 : Int32), .int (0 : Int32), .int (0 : Int32), .int (0 : Int32), .ref q16, .ref q70, .ref q276, .ref q451, .int (0 : Int32), .ref q460, .null, .null, .null, .null, .null, .int (0 : Int32), .null, .null, .null, .int (0 : Int32), .null, .null, .null, .null])), (q8, aI cy 200 (fun _ => 0)), (q16, aI cy 9 a63), (q70, aI cy 34 a269), (q276, aI cy 31 a444), (q451, aI cy 31 (fun _ => 0)), (q460, aI cy 256 (fun _ => 0))] := hD
  refine lv_aload_n hx hb dX12_init_465 rfl (lv_at hl 0 rfl) ?_
  refine lv_sipush (v := 256) hx hb dX12_init_466 (by decide) ?_
  refine newZ C hP hD hS (by decide) rfl (Nat.le_of_ble_eq_true rfl) (Nat.le_of_ble_eq_true rfl) (Nat.le_of_ble_eq_true rfl) dX12_init_469 (fun q469 H hP hD hS => ?_)
  have hP : va_P D vwCl [(h, .inr (12, [.ref q8, .int (0 : Int32), .int (0 : Int32), .int (0 : Int32), .int (0 : Int32), .int (0 : Int32), .int (0 : Int32), .int (0 : Int32), .int (0 : Int32), .ref q16, .ref q70, .ref q276, .ref q451, .int (0 : Int32), .ref q460, .null, .null, .null, .null, .null, .int (0 : Int32), .null, .null, .null, .int (0 : Int32), .null, .null, .null, .null])), (q8, aI cy 200 (fun _ => 0)), (q16, aI cy 9 a63), (q70, aI cy 34 a269), (q276, aI cy 31 a444), (q451, aI cy 31 (fun _ => 0)), (q460, aI cy 256 (fun _ => 0)), (q469, aZ cy 256 (fun _ => 0))] H := hP
  have hD : va_D A [(h, .inr (12, [.ref q8, .int (0 : Int32), .int (0 : Int32), .int (0 : Int32), .int (0 : Int32), .int (0 : Int32), .int (0 : Int32), .int (0 : Int32), .int (0 : Int32), .ref q16, .ref q70, .ref q276, .ref q451, .int (0 : Int32), .ref q460, .null, .null, .null, .null, .null, .int (0 : Int32), .null, .null, .null, .int (0 : Int32), .null, .null, .null, .null])), (q8, aI cy 200 (fun _ => 0)), (q16, aI cy 9 a63), (q70, aI cy 34 a269), (q276, aI cy 31 a444), (q451, aI cy 31 (fun _ => 0)), (q460, aI cy 256 (fun _ => 0)), (q469, aZ cy 256 (fun _ => 0))] := hD
  refine W.widen (k := 7) (n := 817) (Nat.le_refl _) (Nat.le_refl _) ?_
  refine va_putF (D := D) (ci := 12) (v := .ref q469) (ty := (.array .boolean)) (C := RX12) (T := TX12) (N := 29) hx hb hts ui_X12 tyX12 tyX12_ok nmX12 hown hK hP hD hS 0 rfl rfl 15 (by decide) (hts _ fl_X12_28) (fun _ h9 => h9) rfl hin rfl (by decide +kernel) rfl rfl (Nat.le_of_ble_eq_true rfl) dX12_init_471 (fun H locs hP hD hS => ?_)
  have hP : va_P D vwCl [(h, .inr (12, [.ref q8, .int (0 : Int32), .int (0 : Int32), .int (0 : Int32), .int (0 : Int32), .int (0 : Int32), .int (0 : Int32), .int (0 : Int32), .int (0 : Int32), .ref q16, .ref q70, .ref q276, .ref q451, .int (0 : Int32), .ref q460, .ref q469, .null, .null, .null, .null, .int (0 : Int32), .null, .null, .null, .int (0 : Int32), .null, .null, .null, .null])), (q8, aI cy 200 (fun _ => 0)), (q16, aI cy 9 a63), (q70, aI cy 34 a269), (q276, aI cy 31 a444), (q451, aI cy 31 (fun _ => 0)), (q460, aI cy 256 (fun _ => 0)), (q469, aZ cy 256 (fun _ => 0))] H := hP
  have hD : va_D A [(h, .inr (12, [.ref q8, .int (0 : Int32), .int (0 : Int32), .int (0 : Int32), .int (0 : Int32), .int (0 : Int32), .int (0 : Int32), .int (0 : Int32), .int (0 : Int32), .ref q16, .ref q70, .ref q276, .ref q451, .int (0 : Int32), .ref q460, .ref q469, .null, .null, .null, .null, .int (0 : Int32), .null, .null, .null, .int (0 : Int32), .null, .null, .null, .null])), (q8, aI cy 200 (fun _ => 0)), (q16, aI cy 9 a63), (q70, aI cy 34 a269), (q276, aI cy 31 a444), (q451, aI cy 31 (fun _ => 0)), (q460, aI cy 256 (fun _ => 0)), (q469, aZ cy 256 (fun _ => 0))] := hD
  refine lv_aload_n hx hb dX12_init_474 rfl (lv_at hl 0 rfl) ?_
  refine lv_bipush (v := 16) hx hb dX12_init_475 (by decide) ?_
  refine newI C hP hD hS (by decide) rfl (Nat.le_of_ble_eq_true rfl) (Nat.le_of_ble_eq_true rfl) (Nat.le_of_ble_eq_true rfl) dX12_init_477 (fun q477 H hP hD hS => ?_)
  have hP : va_P D vwCl [(h, .inr (12, [.ref q8, .int (0 : Int32), .int (0 : Int32), .int (0 : Int32), .int (0 : Int32), .int (0 : Int32), .int (0 : Int32), .int (0 : Int32), .int (0 : Int32), .ref q16, .ref q70, .ref q276, .ref q451, .int (0 : Int32), .ref q460, .ref q469, .null, .null, .null, .null, .int (0 : Int32), .null, .null, .null, .int (0 : Int32), .null, .null, .null, .null])), (q8, aI cy 200 (fun _ => 0)), (q16, aI cy 9 a63), (q70, aI cy 34 a269), (q276, aI cy 31 a444), (q451, aI cy 31 (fun _ => 0)), (q460, aI cy 256 (fun _ => 0)), (q469, aZ cy 256 (fun _ => 0)), (q477, aI cy 16 (fun _ => 0))] H := hP
  have hD : va_D A [(h, .inr (12, [.ref q8, .int (0 : Int32), .int (0 : Int32), .int (0 : Int32), .int (0 : Int32), .int (0 : Int32), .int (0 : Int32), .int (0 : Int32), .int (0 : Int32), .ref q16, .ref q70, .ref q276, .ref q451, .int (0 : Int32), .ref q460, .ref q469, .null, .null, .null, .null, .int (0 : Int32), .null, .null, .null, .int (0 : Int32), .null, .null, .null, .null])), (q8, aI cy 200 (fun _ => 0)), (q16, aI cy 9 a63), (q70, aI cy 34 a269), (q276, aI cy 31 a444), (q451, aI cy 31 (fun _ => 0)), (q460, aI cy 256 (fun _ => 0)), (q469, aZ cy 256 (fun _ => 0)), (q477, aI cy 16 (fun _ => 0))] := hD
  refine W.widen (k := 8) (n := 833) (Nat.le_refl _) (Nat.le_refl _) ?_
  refine lv_dup hx hb dX12_init_479 rfl ?_
  refine lv_iconst (v := 0) hx hb dX12_init_480 (by decide) ?_
  refine lv_bipush (v := -4) hx hb dX12_init_481 (by decide) ?_
  obtain ⟨a483, ea483⟩ : ∃ y : Nat → Int32, y = upd (fun _ => (0 : Int32)) (0 : Int32).toNatClampNeg (-4 : Int32) := ⟨_, rfl⟩
  have hf := zl_of hf a483 ea483
  refine va_iast hx hb hK hP hD hS 8 1 rfl rfl (show vp_in (0 : Int32) 16 by unfold vp_in; decide) dX12_init_483 (fun H locs hP hD hS => ?_)
  rw [← ea483] at hP hD
  have hP : va_P D vwCl [(h, .inr (12, [.ref q8, .int (0 : Int32), .int (0 : Int32), .int (0 : Int32), .int (0 : Int32), .int (0 : Int32), .int (0 : Int32), .int (0 : Int32), .int (0 : Int32), .ref q16, .ref q70, .ref q276, .ref q451, .int (0 : Int32), .ref q460, .ref q469, .null, .null, .null, .null, .int (0 : Int32), .null, .null, .null, .int (0 : Int32), .null, .null, .null, .null])), (q8, aI cy 200 (fun _ => 0)), (q16, aI cy 9 a63), (q70, aI cy 34 a269), (q276, aI cy 31 a444), (q451, aI cy 31 (fun _ => 0)), (q460, aI cy 256 (fun _ => 0)), (q469, aZ cy 256 (fun _ => 0)), (q477, aI cy 16 a483)] H := hP
  have hD : va_D A [(h, .inr (12, [.ref q8, .int (0 : Int32), .int (0 : Int32), .int (0 : Int32), .int (0 : Int32), .int (0 : Int32), .int (0 : Int32), .int (0 : Int32), .int (0 : Int32), .ref q16, .ref q70, .ref q276, .ref q451, .int (0 : Int32), .ref q460, .ref q469, .null, .null, .null, .null, .int (0 : Int32), .null, .null, .null, .int (0 : Int32), .null, .null, .null, .null])), (q8, aI cy 200 (fun _ => 0)), (q16, aI cy 9 a63), (q70, aI cy 34 a269), (q276, aI cy 31 a444), (q451, aI cy 31 (fun _ => 0)), (q460, aI cy 256 (fun _ => 0)), (q469, aZ cy 256 (fun _ => 0)), (q477, aI cy 16 a483)] := hD
  refine lv_dup hx hb dX12_init_484 rfl ?_
  refine lv_iconst (v := 1) hx hb dX12_init_485 (by decide) ?_
  refine lv_bipush (v := -4) hx hb dX12_init_486 (by decide) ?_
  obtain ⟨a488, ea488⟩ : ∃ y : Nat → Int32, y = upd a483 (1 : Int32).toNatClampNeg (-4 : Int32) := ⟨_, rfl⟩
  have hf := zl_of hf a488 ea488
  refine va_iast hx hb hK hP hD hS 8 1 rfl rfl (show vp_in (1 : Int32) 16 by unfold vp_in; decide) dX12_init_488 (fun H locs hP hD hS => ?_)
  rw [← ea488] at hP hD
  have hP : va_P D vwCl [(h, .inr (12, [.ref q8, .int (0 : Int32), .int (0 : Int32), .int (0 : Int32), .int (0 : Int32), .int (0 : Int32), .int (0 : Int32), .int (0 : Int32), .int (0 : Int32), .ref q16, .ref q70, .ref q276, .ref q451, .int (0 : Int32), .ref q460, .ref q469, .null, .null, .null, .null, .int (0 : Int32), .null, .null, .null, .int (0 : Int32), .null, .null, .null, .null])), (q8, aI cy 200 (fun _ => 0)), (q16, aI cy 9 a63), (q70, aI cy 34 a269), (q276, aI cy 31 a444), (q451, aI cy 31 (fun _ => 0)), (q460, aI cy 256 (fun _ => 0)), (q469, aZ cy 256 (fun _ => 0)), (q477, aI cy 16 a488)] H := hP
  have hD : va_D A [(h, .inr (12, [.ref q8, .int (0 : Int32), .int (0 : Int32), .int (0 : Int32), .int (0 : Int32), .int (0 : Int32), .int (0 : Int32), .int (0 : Int32), .int (0 : Int32), .ref q16, .ref q70, .ref q276, .ref q451, .int (0 : Int32), .ref q460, .ref q469, .null, .null, .null, .null, .int (0 : Int32), .null, .null, .null, .int (0 : Int32), .null, .null, .null, .null])), (q8, aI cy 200 (fun _ => 0)), (q16, aI cy 9 a63), (q70, aI cy 34 a269), (q276, aI cy 31 a444), (q451, aI cy 31 (fun _ => 0)), (q460, aI cy 256 (fun _ => 0)), (q469, aZ cy 256 (fun _ => 0)), (q477, aI cy 16 a488)] := hD
  refine lv_dup hx hb dX12_init_489 rfl ?_
  refine lv_iconst (v := 2) hx hb dX12_init_490 (by decide) ?_
  refine lv_bipush (v := -4) hx hb dX12_init_491 (by decide) ?_
  obtain ⟨a493, ea493⟩ : ∃ y : Nat → Int32, y = upd a488 (2 : Int32).toNatClampNeg (-4 : Int32) := ⟨_, rfl⟩
  have hf := zl_of hf a493 ea493
  refine va_iast hx hb hK hP hD hS 8 1 rfl rfl (show vp_in (2 : Int32) 16 by unfold vp_in; decide) dX12_init_493 (fun H locs hP hD hS => ?_)
  rw [← ea493] at hP hD
  have hP : va_P D vwCl [(h, .inr (12, [.ref q8, .int (0 : Int32), .int (0 : Int32), .int (0 : Int32), .int (0 : Int32), .int (0 : Int32), .int (0 : Int32), .int (0 : Int32), .int (0 : Int32), .ref q16, .ref q70, .ref q276, .ref q451, .int (0 : Int32), .ref q460, .ref q469, .null, .null, .null, .null, .int (0 : Int32), .null, .null, .null, .int (0 : Int32), .null, .null, .null, .null])), (q8, aI cy 200 (fun _ => 0)), (q16, aI cy 9 a63), (q70, aI cy 34 a269), (q276, aI cy 31 a444), (q451, aI cy 31 (fun _ => 0)), (q460, aI cy 256 (fun _ => 0)), (q469, aZ cy 256 (fun _ => 0)), (q477, aI cy 16 a493)] H := hP
  have hD : va_D A [(h, .inr (12, [.ref q8, .int (0 : Int32), .int (0 : Int32), .int (0 : Int32), .int (0 : Int32), .int (0 : Int32), .int (0 : Int32), .int (0 : Int32), .int (0 : Int32), .ref q16, .ref q70, .ref q276, .ref q451, .int (0 : Int32), .ref q460, .ref q469, .null, .null, .null, .null, .int (0 : Int32), .null, .null, .null, .int (0 : Int32), .null, .null, .null, .null])), (q8, aI cy 200 (fun _ => 0)), (q16, aI cy 9 a63), (q70, aI cy 34 a269), (q276, aI cy 31 a444), (q451, aI cy 31 (fun _ => 0)), (q460, aI cy 256 (fun _ => 0)), (q469, aZ cy 256 (fun _ => 0)), (q477, aI cy 16 a493)] := hD
  refine lv_dup hx hb dX12_init_494 rfl ?_
  refine lv_iconst (v := 3) hx hb dX12_init_495 (by decide) ?_
  refine lv_bipush (v := -4) hx hb dX12_init_496 (by decide) ?_
  obtain ⟨a498, ea498⟩ : ∃ y : Nat → Int32, y = upd a493 (3 : Int32).toNatClampNeg (-4 : Int32) := ⟨_, rfl⟩
  have hf := zl_of hf a498 ea498
  refine va_iast hx hb hK hP hD hS 8 1 rfl rfl (show vp_in (3 : Int32) 16 by unfold vp_in; decide) dX12_init_498 (fun H locs hP hD hS => ?_)
  rw [← ea498] at hP hD
  have hP : va_P D vwCl [(h, .inr (12, [.ref q8, .int (0 : Int32), .int (0 : Int32), .int (0 : Int32), .int (0 : Int32), .int (0 : Int32), .int (0 : Int32), .int (0 : Int32), .int (0 : Int32), .ref q16, .ref q70, .ref q276, .ref q451, .int (0 : Int32), .ref q460, .ref q469, .null, .null, .null, .null, .int (0 : Int32), .null, .null, .null, .int (0 : Int32), .null, .null, .null, .null])), (q8, aI cy 200 (fun _ => 0)), (q16, aI cy 9 a63), (q70, aI cy 34 a269), (q276, aI cy 31 a444), (q451, aI cy 31 (fun _ => 0)), (q460, aI cy 256 (fun _ => 0)), (q469, aZ cy 256 (fun _ => 0)), (q477, aI cy 16 a498)] H := hP
  have hD : va_D A [(h, .inr (12, [.ref q8, .int (0 : Int32), .int (0 : Int32), .int (0 : Int32), .int (0 : Int32), .int (0 : Int32), .int (0 : Int32), .int (0 : Int32), .int (0 : Int32), .ref q16, .ref q70, .ref q276, .ref q451, .int (0 : Int32), .ref q460, .ref q469, .null, .null, .null, .null, .int (0 : Int32), .null, .null, .null, .int (0 : Int32), .null, .null, .null, .null])), (q8, aI cy 200 (fun _ => 0)), (q16, aI cy 9 a63), (q70, aI cy 34 a269), (q276, aI cy 31 a444), (q451, aI cy 31 (fun _ => 0)), (q460, aI cy 256 (fun _ => 0)), (q469, aZ cy 256 (fun _ => 0)), (q477, aI cy 16 a498)] := hD
  refine lv_dup hx hb dX12_init_499 rfl ?_
  refine lv_iconst (v := 4) hx hb dX12_init_500 (by decide) ?_
  refine lv_bipush (v := -4) hx hb dX12_init_501 (by decide) ?_
  obtain ⟨a503, ea503⟩ : ∃ y : Nat → Int32, y = upd a498 (4 : Int32).toNatClampNeg (-4 : Int32) := ⟨_, rfl⟩
  have hf := zl_of hf a503 ea503
  refine va_iast hx hb hK hP hD hS 8 1 rfl rfl (show vp_in (4 : Int32) 16 by unfold vp_in; decide) dX12_init_503 (fun H locs hP hD hS => ?_)
  rw [← ea503] at hP hD
  have hP : va_P D vwCl [(h, .inr (12, [.ref q8, .int (0 : Int32), .int (0 : Int32), .int (0 : Int32), .int (0 : Int32), .int (0 : Int32), .int (0 : Int32), .int (0 : Int32), .int (0 : Int32), .ref q16, .ref q70, .ref q276, .ref q451, .int (0 : Int32), .ref q460, .ref q469, .null, .null, .null, .null, .int (0 : Int32), .null, .null, .null, .int (0 : Int32), .null, .null, .null, .null])), (q8, aI cy 200 (fun _ => 0)), (q16, aI cy 9 a63), (q70, aI cy 34 a269), (q276, aI cy 31 a444), (q451, aI cy 31 (fun _ => 0)), (q460, aI cy 256 (fun _ => 0)), (q469, aZ cy 256 (fun _ => 0)), (q477, aI cy 16 a503)] H := hP
  have hD : va_D A [(h, .inr (12, [.ref q8, .int (0 : Int32), .int (0 : Int32), .int (0 : Int32), .int (0 : Int32), .int (0 : Int32), .int (0 : Int32), .int (0 : Int32), .int (0 : Int32), .ref q16, .ref q70, .ref q276, .ref q451, .int (0 : Int32), .ref q460, .ref q469, .null, .null, .null, .null, .int (0 : Int32), .null, .null, .null, .int (0 : Int32), .null, .null, .null, .null])), (q8, aI cy 200 (fun _ => 0)), (q16, aI cy 9 a63), (q70, aI cy 34 a269), (q276, aI cy 31 a444), (q451, aI cy 31 (fun _ => 0)), (q460, aI cy 256 (fun _ => 0)), (q469, aZ cy 256 (fun _ => 0)), (q477, aI cy 16 a503)] := hD
  refine lv_dup hx hb dX12_init_504 rfl ?_
  refine lv_iconst (v := 5) hx hb dX12_init_505 (by decide) ?_
  refine lv_bipush (v := -4) hx hb dX12_init_506 (by decide) ?_
  obtain ⟨a508, ea508⟩ : ∃ y : Nat → Int32, y = upd a503 (5 : Int32).toNatClampNeg (-4 : Int32) := ⟨_, rfl⟩
  have hf := zl_of hf a508 ea508
  refine va_iast hx hb hK hP hD hS 8 1 rfl rfl (show vp_in (5 : Int32) 16 by unfold vp_in; decide) dX12_init_508 (fun H locs hP hD hS => ?_)
  rw [← ea508] at hP hD
  have hP : va_P D vwCl [(h, .inr (12, [.ref q8, .int (0 : Int32), .int (0 : Int32), .int (0 : Int32), .int (0 : Int32), .int (0 : Int32), .int (0 : Int32), .int (0 : Int32), .int (0 : Int32), .ref q16, .ref q70, .ref q276, .ref q451, .int (0 : Int32), .ref q460, .ref q469, .null, .null, .null, .null, .int (0 : Int32), .null, .null, .null, .int (0 : Int32), .null, .null, .null, .null])), (q8, aI cy 200 (fun _ => 0)), (q16, aI cy 9 a63), (q70, aI cy 34 a269), (q276, aI cy 31 a444), (q451, aI cy 31 (fun _ => 0)), (q460, aI cy 256 (fun _ => 0)), (q469, aZ cy 256 (fun _ => 0)), (q477, aI cy 16 a508)] H := hP
  have hD : va_D A [(h, .inr (12, [.ref q8, .int (0 : Int32), .int (0 : Int32), .int (0 : Int32), .int (0 : Int32), .int (0 : Int32), .int (0 : Int32), .int (0 : Int32), .int (0 : Int32), .ref q16, .ref q70, .ref q276, .ref q451, .int (0 : Int32), .ref q460, .ref q469, .null, .null, .null, .null, .int (0 : Int32), .null, .null, .null, .int (0 : Int32), .null, .null, .null, .null])), (q8, aI cy 200 (fun _ => 0)), (q16, aI cy 9 a63), (q70, aI cy 34 a269), (q276, aI cy 31 a444), (q451, aI cy 31 (fun _ => 0)), (q460, aI cy 256 (fun _ => 0)), (q469, aZ cy 256 (fun _ => 0)), (q477, aI cy 16 a508)] := hD
  refine lv_dup hx hb dX12_init_509 rfl ?_
  refine lv_bipush (v := 6) hx hb dX12_init_510 (by decide) ?_
  refine lv_bipush (v := -4) hx hb dX12_init_512 (by decide) ?_
  obtain ⟨a514, ea514⟩ : ∃ y : Nat → Int32, y = upd a508 (6 : Int32).toNatClampNeg (-4 : Int32) := ⟨_, rfl⟩
  have hf := zl_of hf a514 ea514
  refine va_iast hx hb hK hP hD hS 8 1 rfl rfl (show vp_in (6 : Int32) 16 by unfold vp_in; decide) dX12_init_514 (fun H locs hP hD hS => ?_)
  rw [← ea514] at hP hD
  have hP : va_P D vwCl [(h, .inr (12, [.ref q8, .int (0 : Int32), .int (0 : Int32), .int (0 : Int32), .int (0 : Int32), .int (0 : Int32), .int (0 : Int32), .int (0 : Int32), .int (0 : Int32), .ref q16, .ref q70, .ref q276, .ref q451, .int (0 : Int32), .ref q460, .ref q469, .null, .null, .null, .null, .int (0 : Int32), .null, .null, .null, .int (0 : Int32), .null, .null, .null, .null])), (q8, aI cy 200 (fun _ => 0)), (q16, aI cy 9 a63), (q70, aI cy 34 a269), (q276, aI cy 31 a444), (q451, aI cy 31 (fun _ => 0)), (q460, aI cy 256 (fun _ => 0)), (q469, aZ cy 256 (fun _ => 0)), (q477, aI cy 16 a514)] H := hP
  have hD : va_D A [(h, .inr (12, [.ref q8, .int (0 : Int32), .int (0 : Int32), .int (0 : Int32), .int (0 : Int32), .int (0 : Int32), .int (0 : Int32), .int (0 : Int32), .int (0 : Int32), .ref q16, .ref q70, .ref q276, .ref q451, .int (0 : Int32), .ref q460, .ref q469, .null, .null, .null, .null, .int (0 : Int32), .null, .null, .null, .int (0 : Int32), .null, .null, .null, .null])), (q8, aI cy 200 (fun _ => 0)), (q16, aI cy 9 a63), (q70, aI cy 34 a269), (q276, aI cy 31 a444), (q451, aI cy 31 (fun _ => 0)), (q460, aI cy 256 (fun _ => 0)), (q469, aZ cy 256 (fun _ => 0)), (q477, aI cy 16 a514)] := hD
  refine lv_dup hx hb dX12_init_515 rfl ?_
  refine lv_bipush (v := 7) hx hb dX12_init_516 (by decide) ?_
  refine lv_bipush (v := -4) hx hb dX12_init_518 (by decide) ?_
  obtain ⟨a520, ea520⟩ : ∃ y : Nat → Int32, y = upd a514 (7 : Int32).toNatClampNeg (-4 : Int32) := ⟨_, rfl⟩
  have hf := zl_of hf a520 ea520
  refine va_iast hx hb hK hP hD hS 8 1 rfl rfl (show vp_in (7 : Int32) 16 by unfold vp_in; decide) dX12_init_520 (fun H locs hP hD hS => ?_)
  rw [← ea520] at hP hD
  have hP : va_P D vwCl [(h, .inr (12, [.ref q8, .int (0 : Int32), .int (0 : Int32), .int (0 : Int32), .int (0 : Int32), .int (0 : Int32), .int (0 : Int32), .int (0 : Int32), .int (0 : Int32), .ref q16, .ref q70, .ref q276, .ref q451, .int (0 : Int32), .ref q460, .ref q469, .null, .null, .null, .null, .int (0 : Int32), .null, .null, .null, .int (0 : Int32), .null, .null, .null, .null])), (q8, aI cy 200 (fun _ => 0)), (q16, aI cy 9 a63), (q70, aI cy 34 a269), (q276, aI cy 31 a444), (q451, aI cy 31 (fun _ => 0)), (q460, aI cy 256 (fun _ => 0)), (q469, aZ cy 256 (fun _ => 0)), (q477, aI cy 16 a520)] H := hP
  have hD : va_D A [(h, .inr (12, [.ref q8, .int (0 : Int32), .int (0 : Int32), .int (0 : Int32), .int (0 : Int32), .int (0 : Int32), .int (0 : Int32), .int (0 : Int32), .int (0 : Int32), .ref q16, .ref q70, .ref q276, .ref q451, .int (0 : Int32), .ref q460, .ref q469, .null, .null, .null, .null, .int (0 : Int32), .null, .null, .null, .int (0 : Int32), .null, .null, .null, .null])), (q8, aI cy 200 (fun _ => 0)), (q16, aI cy 9 a63), (q70, aI cy 34 a269), (q276, aI cy 31 a444), (q451, aI cy 31 (fun _ => 0)), (q460, aI cy 256 (fun _ => 0)), (q469, aZ cy 256 (fun _ => 0)), (q477, aI cy 16 a520)] := hD
  refine lv_dup hx hb dX12_init_521 rfl ?_
  refine lv_bipush (v := 8) hx hb dX12_init_522 (by decide) ?_
  refine lv_bipush (v := -4) hx hb dX12_init_524 (by decide) ?_
  obtain ⟨a526, ea526⟩ : ∃ y : Nat → Int32, y = upd a520 (8 : Int32).toNatClampNeg (-4 : Int32) := ⟨_, rfl⟩
  have hf := zl_of hf a526 ea526
  refine va_iast hx hb hK hP hD hS 8 1 rfl rfl (show vp_in (8 : Int32) 16 by unfold vp_in; decide) dX12_init_526 (fun H locs hP hD hS => ?_)
  rw [← ea526] at hP hD
  have hP : va_P D vwCl [(h, .inr (12, [.ref q8, .int (0 : Int32), .int (0 : Int32), .int (0 : Int32), .int (0 : Int32), .int (0 : Int32), .int (0 : Int32), .int (0 : Int32), .int (0 : Int32), .ref q16, .ref q70, .ref q276, .ref q451, .int (0 : Int32), .ref q460, .ref q469, .null, .null, .null, .null, .int (0 : Int32), .null, .null, .null, .int (0 : Int32), .null, .null, .null, .null])), (q8, aI cy 200 (fun _ => 0)), (q16, aI cy 9 a63), (q70, aI cy 34 a269), (q276, aI cy 31 a444), (q451, aI cy 31 (fun _ => 0)), (q460, aI cy 256 (fun _ => 0)), (q469, aZ cy 256 (fun _ => 0)), (q477, aI cy 16 a526)] H := hP
  have hD : va_D A [(h, .inr (12, [.ref q8, .int (0 : Int32), .int (0 : Int32), .int (0 : Int32), .int (0 : Int32), .int (0 : Int32), .int (0 : Int32), .int (0 : Int32), .int (0 : Int32), .ref q16, .ref q70, .ref q276, .ref q451, .int (0 : Int32), .ref q460, .ref q469, .null, .null, .null, .null, .int (0 : Int32), .null, .null, .null, .int (0 : Int32), .null, .null, .null, .null])), (q8, aI cy 200 (fun _ => 0)), (q16, aI cy 9 a63), (q70, aI cy 34 a269), (q276, aI cy 31 a444), (q451, aI cy 31 (fun _ => 0)), (q460, aI cy 256 (fun _ => 0)), (q469, aZ cy 256 (fun _ => 0)), (q477, aI cy 16 a526)] := hD
  refine lv_dup hx hb dX12_init_527 rfl ?_
  refine lv_bipush (v := 9) hx hb dX12_init_528 (by decide) ?_
  refine lv_bipush (v := -4) hx hb dX12_init_530 (by decide) ?_
  obtain ⟨a532, ea532⟩ : ∃ y : Nat → Int32, y = upd a526 (9 : Int32).toNatClampNeg (-4 : Int32) := ⟨_, rfl⟩
  have hf := zl_of hf a532 ea532
  refine va_iast hx hb hK hP hD hS 8 1 rfl rfl (show vp_in (9 : Int32) 16 by unfold vp_in; decide) dX12_init_532 (fun H locs hP hD hS => ?_)
  rw [← ea532] at hP hD
  have hP : va_P D vwCl [(h, .inr (12, [.ref q8, .int (0 : Int32), .int (0 : Int32), .int (0 : Int32), .int (0 : Int32), .int (0 : Int32), .int (0 : Int32), .int (0 : Int32), .int (0 : Int32), .ref q16, .ref q70, .ref q276, .ref q451, .int (0 : Int32), .ref q460, .ref q469, .null, .null, .null, .null, .int (0 : Int32), .null, .null, .null, .int (0 : Int32), .null, .null, .null, .null])), (q8, aI cy 200 (fun _ => 0)), (q16, aI cy 9 a63), (q70, aI cy 34 a269), (q276, aI cy 31 a444), (q451, aI cy 31 (fun _ => 0)), (q460, aI cy 256 (fun _ => 0)), (q469, aZ cy 256 (fun _ => 0)), (q477, aI cy 16 a532)] H := hP
  have hD : va_D A [(h, .inr (12, [.ref q8, .int (0 : Int32), .int (0 : Int32), .int (0 : Int32), .int (0 : Int32), .int (0 : Int32), .int (0 : Int32), .int (0 : Int32), .int (0 : Int32), .ref q16, .ref q70, .ref q276, .ref q451, .int (0 : Int32), .ref q460, .ref q469, .null, .null, .null, .null, .int (0 : Int32), .null, .null, .null, .int (0 : Int32), .null, .null, .null, .null])), (q8, aI cy 200 (fun _ => 0)), (q16, aI cy 9 a63), (q70, aI cy 34 a269), (q276, aI cy 31 a444), (q451, aI cy 31 (fun _ => 0)), (q460, aI cy 256 (fun _ => 0)), (q469, aZ cy 256 (fun _ => 0)), (q477, aI cy 16 a532)] := hD
  refine lv_dup hx hb dX12_init_533 rfl ?_
  refine lv_bipush (v := 10) hx hb dX12_init_534 (by decide) ?_
  refine lv_bipush (v := -4) hx hb dX12_init_536 (by decide) ?_
  obtain ⟨a538, ea538⟩ : ∃ y : Nat → Int32, y = upd a532 (10 : Int32).toNatClampNeg (-4 : Int32) := ⟨_, rfl⟩
  have hf := zl_of hf a538 ea538
  refine va_iast hx hb hK hP hD hS 8 1 rfl rfl (show vp_in (10 : Int32) 16 by unfold vp_in; decide) dX12_init_538 (fun H locs hP hD hS => ?_)
  rw [← ea538] at hP hD
  have hP : va_P D vwCl [(h, .inr (12, [.ref q8, .int (0 : Int32), .int (0 : Int32), .int (0 : Int32), .int (0 : Int32), .int (0 : Int32), .int (0 : Int32), .int (0 : Int32), .int (0 : Int32), .ref q16, .ref q70, .ref q276, .ref q451, .int (0 : Int32), .ref q460, .ref q469, .null, .null, .null, .null, .int (0 : Int32), .null, .null, .null, .int (0 : Int32), .null, .null, .null, .null])), (q8, aI cy 200 (fun _ => 0)), (q16, aI cy 9 a63), (q70, aI cy 34 a269), (q276, aI cy 31 a444), (q451, aI cy 31 (fun _ => 0)), (q460, aI cy 256 (fun _ => 0)), (q469, aZ cy 256 (fun _ => 0)), (q477, aI cy 16 a538)] H := hP
  have hD : va_D A [(h, .inr (12, [.ref q8, .int (0 : Int32), .int (0 : Int32), .int (0 : Int32), .int (0 : Int32), .int (0 : Int32), .int (0 : Int32), .int (0 : Int32), .int (0 : Int32), .ref q16, .ref q70, .ref q276, .ref q451, .int (0 : Int32), .ref q460, .ref q469, .null, .null, .null, .null, .int (0 : Int32), .null, .null, .null, .int (0 : Int32), .null, .null, .null, .null])), (q8, aI cy 200 (fun _ => 0)), (q16, aI cy 9 a63), (q70, aI cy 34 a269), (q276, aI cy 31 a444), (q451, aI cy 31 (fun _ => 0)), (q460, aI cy 256 (fun _ => 0)), (q469, aZ cy 256 (fun _ => 0)), (q477, aI cy 16 a538)] := hD
  refine lv_dup hx hb dX12_init_539 rfl ?_
  refine lv_bipush (v := 11) hx hb dX12_init_540 (by decide) ?_
  refine lv_bipush (v := -4) hx hb dX12_init_542 (by decide) ?_
  obtain ⟨a544, ea544⟩ : ∃ y : Nat → Int32, y = upd a538 (11 : Int32).toNatClampNeg (-4 : Int32) := ⟨_, rfl⟩
  have hf := zl_of hf a544 ea544
  refine va_iast hx hb hK hP hD hS 8 1 rfl rfl (show vp_in (11 : Int32) 16 by unfold vp_in; decide) dX12_init_544 (fun H locs hP hD hS => ?_)
  rw [← ea544] at hP hD
  have hP : va_P D vwCl [(h, .inr (12, [.ref q8, .int (0 : Int32), .int (0 : Int32), .int (0 : Int32), .int (0 : Int32), .int (0 : Int32), .int (0 : Int32), .int (0 : Int32), .int (0 : Int32), .ref q16, .ref q70, .ref q276, .ref q451, .int (0 : Int32), .ref q460, .ref q469, .null, .null, .null, .null, .int (0 : Int32), .null, .null, .null, .int (0 : Int32), .null, .null, .null, .null])), (q8, aI cy 200 (fun _ => 0)), (q16, aI cy 9 a63), (q70, aI cy 34 a269), (q276, aI cy 31 a444), (q451, aI cy 31 (fun _ => 0)), (q460, aI cy 256 (fun _ => 0)), (q469, aZ cy 256 (fun _ => 0)), (q477, aI cy 16 a544)] H := hP
  have hD : va_D A [(h, .inr (12, [.ref q8, .int (0 : Int32), .int (0 : Int32), .int (0 : Int32), .int (0 : Int32), .int (0 : Int32), .int (0 : Int32), .int (0 : Int32), .int (0 : Int32), .ref q16, .ref q70, .ref q276, .ref q451, .int (0 : Int32), .ref q460, .ref q469, .null, .null, .null, .null, .int (0 : Int32), .null, .null, .null, .int (0 : Int32), .null, .null, .null, .null])), (q8, aI cy 200 (fun _ => 0)), (q16, aI cy 9 a63), (q70, aI cy 34 a269), (q276, aI cy 31 a444), (q451, aI cy 31 (fun _ => 0)), (q460, aI cy 256 (fun _ => 0)), (q469, aZ cy 256 (fun _ => 0)), (q477, aI cy 16 a544)] := hD
  refine lv_dup hx hb dX12_init_545 rfl ?_
  refine lv_bipush (v := 12) hx hb dX12_init_546 (by decide) ?_
  refine lv_bipush (v := -4) hx hb dX12_init_548 (by decide) ?_
  obtain ⟨a550, ea550⟩ : ∃ y : Nat → Int32, y = upd a544 (12 : Int32).toNatClampNeg (-4 : Int32) := ⟨_, rfl⟩
  have hf := zl_of hf a550 ea550
  refine va_iast hx hb hK hP hD hS 8 1 rfl rfl (show vp_in (12 : Int32) 16 by unfold vp_in; decide) dX12_init_550 (fun H locs hP hD hS => ?_)
  rw [← ea550] at hP hD
  have hP : va_P D vwCl [(h, .inr (12, [.ref q8, .int (0 : Int32), .int (0 : Int32), .int (0 : Int32), .int (0 : Int32), .int (0 : Int32), .int (0 : Int32), .int (0 : Int32), .int (0 : Int32), .ref q16, .ref q70, .ref q276, .ref q451, .int (0 : Int32), .ref q460, .ref q469, .null, .null, .null, .null, .int (0 : Int32), .null, .null, .null, .int (0 : Int32), .null, .null, .null, .null])), (q8, aI cy 200 (fun _ => 0)), (q16, aI cy 9 a63), (q70, aI cy 34 a269), (q276, aI cy 31 a444), (q451, aI cy 31 (fun _ => 0)), (q460, aI cy 256 (fun _ => 0)), (q469, aZ cy 256 (fun _ => 0)), (q477, aI cy 16 a550)] H := hP
  have hD : va_D A [(h, .inr (12, [.ref q8, .int (0 : Int32), .int (0 : Int32), .int (0 : Int32), .int (0 : Int32), .int (0 : Int32), .int (0 : Int32), .int (0 : Int32), .int (0 : Int32), .ref q16, .ref q70, .ref q276, .ref q451, .int (0 : Int32), .ref q460, .ref q469, .null, .null, .null, .null, .int (0 : Int32), .null, .null, .null, .int (0 : Int32), .null, .null, .null, .null])), (q8, aI cy 200 (fun _ => 0)), (q16, aI cy 9 a63), (q70, aI cy 34 a269), (q276, aI cy 31 a444), (q451, aI cy 31 (fun _ => 0)), (q460, aI cy 256 (fun _ => 0)), (q469, aZ cy 256 (fun _ => 0)), (q477, aI cy 16 a550)] := hD
  refine lv_dup hx hb dX12_init_551 rfl ?_
  refine lv_bipush (v := 13) hx hb dX12_init_552 (by decide) ?_
  refine lv_bipush (v := -4) hx hb dX12_init_554 (by decide) ?_
  obtain ⟨a556, ea556⟩ : ∃ y : Nat → Int32, y = upd a550 (13 : Int32).toNatClampNeg (-4 : Int32) := ⟨_, rfl⟩
  have hf := zl_of hf a556 ea556
  refine va_iast hx hb hK hP hD hS 8 1 rfl rfl (show vp_in (13 : Int32) 16 by unfold vp_in; decide) dX12_init_556 (fun H locs hP hD hS => ?_)
  rw [← ea556] at hP hD
  have hP : va_P D vwCl [(h, .inr (12, [.ref q8, .int (0 : Int32), .int (0 : Int32), .int (0 : Int32), .int (0 : Int32), .int (0 : Int32), .int (0 : Int32), .int (0 : Int32), .int (0 : Int32), .ref q16, .ref q70, .ref q276, .ref q451, .int (0 : Int32), .ref q460, .ref q469, .null, .null, .null, .null, .int (0 : Int32), .null, .null, .null, .int (0 : Int32), .null, .null, .null, .null])), (q8, aI cy 200 (fun _ => 0)), (q16, aI cy 9 a63), (q70, aI cy 34 a269), (q276, aI cy 31 a444), (q451, aI cy 31 (fun _ => 0)), (q460, aI cy 256 (fun _ => 0)), (q469, aZ cy 256 (fun _ => 0)), (q477, aI cy 16 a556)] H := hP
  have hD : va_D A [(h, .inr (12, [.ref q8, .int (0 : Int32), .int (0 : Int32), .int (0 : Int32), .int (0 : Int32), .int (0 : Int32), .int (0 : Int32), .int (0 : Int32), .int (0 : Int32), .ref q16, .ref q70, .ref q276, .ref q451, .int (0 : Int32), .ref q460, .ref q469, .null, .null, .null, .null, .int (0 : Int32), .null, .null, .null, .int (0 : Int32), .null, .null, .null, .null])), (q8, aI cy 200 (fun _ => 0)), (q16, aI cy 9 a63), (q70, aI cy 34 a269), (q276, aI cy 31 a444), (q451, aI cy 31 (fun _ => 0)), (q460, aI cy 256 (fun _ => 0)), (q469, aZ cy 256 (fun _ => 0)), (q477, aI cy 16 a556)] := hD
  refine lv_dup hx hb dX12_init_557 rfl ?_
  refine lv_bipush (v := 14) hx hb dX12_init_558 (by decide) ?_
  refine lv_bipush (v := -4) hx hb dX12_init_560 (by decide) ?_
  obtain ⟨a562, ea562⟩ : ∃ y : Nat → Int32, y = upd a556 (14 : Int32).toNatClampNeg (-4 : Int32) := ⟨_, rfl⟩
  have hf := zl_of hf a562 ea562
  refine va_iast hx hb hK hP hD hS 8 1 rfl rfl (show vp_in (14 : Int32) 16 by unfold vp_in; decide) dX12_init_562 (fun H locs hP hD hS => ?_)
  rw [← ea562] at hP hD
  have hP : va_P D vwCl [(h, .inr (12, [.ref q8, .int (0 : Int32), .int (0 : Int32), .int (0 : Int32), .int (0 : Int32), .int (0 : Int32), .int (0 : Int32), .int (0 : Int32), .int (0 : Int32), .ref q16, .ref q70, .ref q276, .ref q451, .int (0 : Int32), .ref q460, .ref q469, .null, .null, .null, .null, .int (0 : Int32), .null, .null, .null, .int (0 : Int32), .null, .null, .null, .null])), (q8, aI cy 200 (fun _ => 0)), (q16, aI cy 9 a63), (q70, aI cy 34 a269), (q276, aI cy 31 a444), (q451, aI cy 31 (fun _ => 0)), (q460, aI cy 256 (fun _ => 0)), (q469, aZ cy 256 (fun _ => 0)), (q477, aI cy 16 a562)] H := hP
  have hD : va_D A [(h, .inr (12, [.ref q8, .int (0 : Int32), .int (0 : Int32), .int (0 : Int32), .int (0 : Int32), .int (0 : Int32), .int (0 : Int32), .int (0 : Int32), .int (0 : Int32), .ref q16, .ref q70, .ref q276, .ref q451, .int (0 : Int32), .ref q460, .ref q469, .null, .null, .null, .null, .int (0 : Int32), .null, .null, .null, .int (0 : Int32), .null, .null, .null, .null])), (q8, aI cy 200 (fun _ => 0)), (q16, aI cy 9 a63), (q70, aI cy 34 a269), (q276, aI cy 31 a444), (q451, aI cy 31 (fun _ => 0)), (q460, aI cy 256 (fun _ => 0)), (q469, aZ cy 256 (fun _ => 0)), (q477, aI cy 16 a562)] := hD
  refine lv_dup hx hb dX12_init_563 rfl ?_
  refine lv_bipush (v := 15) hx hb dX12_init_564 (by decide) ?_
  refine lv_bipush (v := -4) hx hb dX12_init_566 (by decide) ?_
  obtain ⟨a568, ea568⟩ : ∃ y : Nat → Int32, y = upd a562 (15 : Int32).toNatClampNeg (-4 : Int32) := ⟨_, rfl⟩
  have hf := zl_of hf a568 ea568
  refine va_iast hx hb hK hP hD hS 8 1 rfl rfl (show vp_in (15 : Int32) 16 by unfold vp_in; decide) dX12_init_568 (fun H locs hP hD hS => ?_)
  rw [← ea568] at hP hD
  have hP : va_P D vwCl [(h, .inr (12, [.ref q8, .int (0 : Int32), .int (0 : Int32), .int (0 : Int32), .int (0 : Int32), .int (0 : Int32), .int (0 : Int32), .int (0 : Int32), .int (0 : Int32), .ref q16, .ref q70, .ref q276, .ref q451, .int (0 : Int32), .ref q460, .ref q469, .null, .null, .null, .null, .int (0 : Int32), .null, .null, .null, .int (0 : Int32), .null, .null, .null, .null])), (q8, aI cy 200 (fun _ => 0)), (q16, aI cy 9 a63), (q70, aI cy 34 a269), (q276, aI cy 31 a444), (q451, aI cy 31 (fun _ => 0)), (q460, aI cy 256 (fun _ => 0)), (q469, aZ cy 256 (fun _ => 0)), (q477, aI cy 16 a568)] H := hP
  have hD : va_D A [(h, .inr (12, [.ref q8, .int (0 : Int32), .int (0 : Int32), .int (0 : Int32), .int (0 : Int32), .int (0 : Int32), .int (0 : Int32), .int (0 : Int32), .int (0 : Int32), .ref q16, .ref q70, .ref q276, .ref q451, .int (0 : Int32), .ref q460, .ref q469, .null, .null, .null, .null, .int (0 : Int32), .null, .null, .null, .int (0 : Int32), .null, .null, .null, .null])), (q8, aI cy 200 (fun _ => 0)), (q16, aI cy 9 a63), (q70, aI cy 34 a269), (q276, aI cy 31 a444), (q451, aI cy 31 (fun _ => 0)), (q460, aI cy 256 (fun _ => 0)), (q469, aZ cy 256 (fun _ => 0)), (q477, aI cy 16 a568)] := hD
  refine va_putF (D := D) (ci := 12) (v := .ref q477) (ty := (.array .int)) (C := RX12) (T := TX12) (N := 29) hx hb hts ui_X12 tyX12 tyX12_ok nmX12 hown hK hP hD hS 0 rfl rfl 16 (by decide) (hts _ fl_X12_32) (fun _ h9 => h9) rfl hin rfl (by decide +kernel) rfl rfl (Nat.le_of_ble_eq_true rfl) dX12_init_569 (fun H locs hP hD hS => ?_)
  have hP : va_P D vwCl [(h, .inr (12, [.ref q8, .int (0 : Int32), .int (0 : Int32), .int (0 : Int32), .int (0 : Int32), .int (0 : Int32), .int (0 : Int32), .int (0 : Int32), .int (0 : Int32), .ref q16, .ref q70, .ref q276, .ref q451, .int (0 : Int32), .ref q460, .ref q469, .ref q477, .null, .null, .null, .int (0 : Int32), .null, .null, .null, .int (0 : Int32), .null, .null, .null, .null])), (q8, aI cy 200 (fun _ => 0)), (q16, aI cy 9 a63), (q70, aI cy 34 a269), (q276, aI cy 31 a444), (q451, aI cy 31 (fun _ => 0)), (q460, aI cy 256 (fun _ => 0)), (q469, aZ cy 256 (fun _ => 0)), (q477, aI cy 16 a568)] H := hP
  have hD : va_D A [(h, .inr (12, [.ref q8, .int (0 : Int32), .int (0 : Int32), .int (0 : Int32), .int (0 : Int32), .int (0 : Int32), .int (0 : Int32), .int (0 : Int32), .int (0 : Int32), .ref q16, .ref q70, .ref q276, .ref q451, .int (0 : Int32), .ref q460, .ref q469, .ref q477, .null, .null, .null, .int (0 : Int32), .null, .null, .null, .int (0 : Int32), .null, .null, .null, .null])), (q8, aI cy 200 (fun _ => 0)), (q16, aI cy 9 a63), (q70, aI cy 34 a269), (q276, aI cy 31 a444), (q451, aI cy 31 (fun _ => 0)), (q460, aI cy 256 (fun _ => 0)), (q469, aZ cy 256 (fun _ => 0)), (q477, aI cy 16 a568)] := hD
  refine lv_aload_n hx hb dX12_init_572 rfl (lv_at hl 0 rfl) ?_
  refine lv_sipush (v := 440) hx hb dX12_init_573 (by decide) ?_
  refine newI C hP hD hS (by decide) rfl (Nat.le_of_ble_eq_true rfl) (Nat.le_of_ble_eq_true rfl) (Nat.le_of_ble_eq_true rfl) dX12_init_576 (fun q576 H hP hD hS => ?_)
  have hP : va_P D vwCl [(h, .inr (12, [.ref q8, .int (0 : Int32), .int (0 : Int32), .int (0 : Int32), .int (0 : Int32), .int (0 : Int32), .int (0 : Int32), .int (0 : Int32), .int (0 : Int32), .ref q16, .ref q70, .ref q276, .ref q451, .int (0 : Int32), .ref q460, .ref q469, .ref q477, .null, .null, .null, .int (0 : Int32), .null, .null, .null, .int (0 : Int32), .null, .null, .null, .null])), (q8, aI cy 200 (fun _ => 0)), (q16, aI cy 9 a63), (q70, aI cy 34 a269), (q276, aI cy 31 a444), (q451, aI cy 31 (fun _ => 0)), (q460, aI cy 256 (fun _ => 0)), (q469, aZ cy 256 (fun _ => 0)), (q477, aI cy 16 a568), (q576, aI cy 440 (fun _ => 0))] H := hP
  have hD : va_D A [(h, .inr (12, [.ref q8, .int (0 : Int32), .int (0 : Int32), .int (0 : Int32), .int (0 : Int32), .int (0 : Int32), .int (0 : Int32), .int (0 : Int32), .int (0 : Int32), .ref q16, .ref q70, .ref q276, .ref q451, .int (0 : Int32), .ref q460, .ref q469, .ref q477, .null, .null, .null, .int (0 : Int32), .null, .null, .null, .int (0 : Int32), .null, .null, .null, .null])), (q8, aI cy 200 (fun _ => 0)), (q16, aI cy 9 a63), (q70, aI cy 34 a269), (q276, aI cy 31 a444), (q451, aI cy 31 (fun _ => 0)), (q460, aI cy 256 (fun _ => 0)), (q469, aZ cy 256 (fun _ => 0)), (q477, aI cy 16 a568), (q576, aI cy 440 (fun _ => 0))] := hD
  refine W.widen (k := 9) (n := 1273) (Nat.le_refl _) (Nat.le_refl _) ?_
  refine va_putF (D := D) (ci := 12) (v := .ref q576) (ty := (.array .int)) (C := RX12) (T := TX12) (N := 29) hx hb hts ui_X12 tyX12 tyX12_ok nmX12 hown hK hP hD hS 0 rfl rfl 17 (by decide) (hts _ fl_X12_35) (fun _ h9 => h9) rfl hin rfl (by decide +kernel) rfl rfl (Nat.le_of_ble_eq_true rfl) dX12_init_578 (fun H locs hP hD hS => ?_)
  have hP : va_P D vwCl [(h, .inr (12, [.ref q8, .int (0 : Int32), .int (0 : Int32), .int (0 : Int32), .int (0 : Int32), .int (0 : Int32), .int (0 : Int32), .int (0 : Int32), .int (0 : Int32), .ref q16, .ref q70, .ref q276, .ref q451, .int (0 : Int32), .ref q460, .ref q469, .ref q477, .ref q576, .null, .null, .int (0 : Int32), .null, .null, .null, .int (0 : Int32), .null, .null, .null, .null])), (q8, aI cy 200 (fun _ => 0)), (q16, aI cy 9 a63), (q70, aI cy 34 a269), (q276, aI cy 31 a444), (q451, aI cy 31 (fun _ => 0)), (q460, aI cy 256 (fun _ => 0)), (q469, aZ cy 256 (fun _ => 0)), (q477, aI cy 16 a568), (q576, aI cy 440 (fun _ => 0))] H := hP
  have hD : va_D A [(h, .inr (12, [.ref q8, .int (0 : Int32), .int (0 : Int32), .int (0 : Int32), .int (0 : Int32), .int (0 : Int32), .int (0 : Int32), .int (0 : Int32), .int (0 : Int32), .ref q16, .ref q70, .ref q276, .ref q451, .int (0 : Int32), .ref q460, .ref q469, .ref q477, .ref q576, .null, .null, .int (0 : Int32), .null, .null, .null, .int (0 : Int32), .null, .null, .null, .null])), (q8, aI cy 200 (fun _ => 0)), (q16, aI cy 9 a63), (q70, aI cy 34 a269), (q276, aI cy 31 a444), (q451, aI cy 31 (fun _ => 0)), (q460, aI cy 256 (fun _ => 0)), (q469, aZ cy 256 (fun _ => 0)), (q477, aI cy 16 a568), (q576, aI cy 440 (fun _ => 0))] := hD
  refine lv_aload_n hx hb dX12_init_581 rfl (lv_at hl 0 rfl) ?_
  refine lv_sipush (v := 440) hx hb dX12_init_582 (by decide) ?_
  refine newI C hP hD hS (by decide) rfl (Nat.le_of_ble_eq_true rfl) (Nat.le_of_ble_eq_true rfl) (Nat.le_of_ble_eq_true rfl) dX12_init_585 (fun q585 H hP hD hS => ?_)
  have hP : va_P D vwCl [(h, .inr (12, [.ref q8, .int (0 : Int32), .int (0 : Int32), .int (0 : Int32), .int (0 : Int32), .int (0 : Int32), .int (0 : Int32), .int (0 : Int32), .int (0 : Int32), .ref q16, .ref q70, .ref q276, .ref q451, .int (0 : Int32), .ref q460, .ref q469, .ref q477, .ref q576, .null, .null, .int (0 : Int32), .null, .null, .null, .int (0 : Int32), .null, .null, .null, .null])), (q8, aI cy 200 (fun _ => 0)), (q16, aI cy 9 a63), (q70, aI cy 34 a269), (q276, aI cy 31 a444), (q451, aI cy 31 (fun _ => 0)), (q460, aI cy 256 (fun _ => 0)), (q469, aZ cy 256 (fun _ => 0)), (q477, aI cy 16 a568), (q576, aI cy 440 (fun _ => 0)), (q585, aI cy 440 (fun _ => 0))] H := hP
  have hD : va_D A [(h, .inr (12, [.ref q8, .int (0 : Int32), .int (0 : Int32), .int (0 : Int32), .int (0 : Int32), .int (0 : Int32), .int (0 : Int32), .int (0 : Int32), .int (0 : Int32), .ref q16, .ref q70, .ref q276, .ref q451, .int (0 : Int32), .ref q460, .ref q469, .ref q477, .ref q576, .null, .null, .int (0 : Int32), .null, .null, .null, .int (0 : Int32), .null, .null, .null, .null])), (q8, aI cy 200 (fun _ => 0)), (q16, aI cy 9 a63), (q70, aI cy 34 a269), (q276, aI cy 31 a444), (q451, aI cy 31 (fun _ => 0)), (q460, aI cy 256 (fun _ => 0)), (q469, aZ cy 256 (fun _ => 0)), (q477, aI cy 16 a568), (q576, aI cy 440 (fun _ => 0)), (q585, aI cy 440 (fun _ => 0))] := hD
  refine W.widen (k := 10) (n := 1713) (Nat.le_refl _) (Nat.le_refl _) ?_
  refine va_putF (D := D) (ci := 12) (v := .ref q585) (ty := (.array .int)) (C := RX12) (T := TX12) (N := 29) hx hb hts ui_X12 tyX12 tyX12_ok nmX12 hown hK hP hD hS 0 rfl rfl 18 (by decide) (hts _ fl_X12_38) (fun _ h9 => h9) rfl hin rfl (by decide +kernel) rfl rfl (Nat.le_of_ble_eq_true rfl) dX12_init_587 (fun H locs hP hD hS => ?_)
  have hP : va_P D vwCl [(h, .inr (12, [.ref q8, .int (0 : Int32), .int (0 : Int32), .int (0 : Int32), .int (0 : Int32), .int (0 : Int32), .int (0 : Int32), .int (0 : Int32), .int (0 : Int32), .ref q16, .ref q70, .ref q276, .ref q451, .int (0 : Int32), .ref q460, .ref q469, .ref q477, .ref q576, .ref q585, .null, .int (0 : Int32), .null, .null, .null, .int (0 : Int32), .null, .null, .null, .null])), (q8, aI cy 200 (fun _ => 0)), (q16, aI cy 9 a63), (q70, aI cy 34 a269), (q276, aI cy 31 a444), (q451, aI cy 31 (fun _ => 0)), (q460, aI cy 256 (fun _ => 0)), (q469, aZ cy 256 (fun _ => 0)), (q477, aI cy 16 a568), (q576, aI cy 440 (fun _ => 0)), (q585, aI cy 440 (fun _ => 0))] H := hP
  have hD : va_D A [(h, .inr (12, [.ref q8, .int (0 : Int32), .int (0 : Int32), .int (0 : Int32), .int (0 : Int32), .int (0 : Int32), .int (0 : Int32), .int (0 : Int32), .int (0 : Int32), .ref q16, .ref q70, .ref q276, .ref q451, .int (0 : Int32), .ref q460, .ref q469, .ref q477, .ref q576, .ref q585, .null, .int (0 : Int32), .null, .null, .null, .int (0 : Int32), .null, .null, .null, .null])), (q8, aI cy 200 (fun _ => 0)), (q16, aI cy 9 a63), (q70, aI cy 34 a269), (q276, aI cy 31 a444), (q451, aI cy 31 (fun _ => 0)), (q460, aI cy 256 (fun _ => 0)), (q469, aZ cy 256 (fun _ => 0)), (q477, aI cy 16 a568), (q576, aI cy 440 (fun _ => 0)), (q585, aI cy 440 (fun _ => 0))] := hD
  refine lv_aload_n hx hb dX12_init_590 rfl (lv_at hl 0 rfl) ?_
  refine lv_sipush (v := 440) hx hb dX12_init_591 (by decide) ?_
  refine newI C hP hD hS (by decide) rfl (Nat.le_of_ble_eq_true rfl) (Nat.le_of_ble_eq_true rfl) (Nat.le_of_ble_eq_true rfl) dX12_init_594 (fun q594 H hP hD hS => ?_)
  have hP : va_P D vwCl [(h, .inr (12, [.ref q8, .int (0 : Int32), .int (0 : Int32), .int (0 : Int32), .int (0 : Int32), .int (0 : Int32), .int (0 : Int32), .int (0 : Int32), .int (0 : Int32), .ref q16, .ref q70, .ref q276, .ref q451, .int (0 : Int32), .ref q460, .ref q469, .ref q477, .ref q576, .ref q585, .null, .int (0 : Int32), .null, .null, .null, .int (0 : Int32), .null, .null, .null, .null])), (q8, aI cy 200 (fun _ => 0)), (q16, aI cy 9 a63), (q70, aI cy 34 a269), (q276, aI cy 31 a444), (q451, aI cy 31 (fun _ => 0)), (q460, aI cy 256 (fun _ => 0)), (q469, aZ cy 256 (fun _ => 0)), (q477, aI cy 16 a568), (q576, aI cy 440 (fun _ => 0)), (q585, aI cy 440 (fun _ => 0)), (q594, aI cy 440 (fun _ => 0))] H := hP
  have hD : va_D A [(h, .inr (12, [.ref q8, .int (0 : Int32), .int (0 : Int32), .int (0 : Int32), .int (0 : Int32), .int (0 : Int32), .int (0 : Int32), .int (0 : Int32), .int (0 : Int32), .ref q16, .ref q70, .ref q276, .ref q451, .int (0 : Int32), .ref q460, .ref q469, .ref q477, .ref q576, .ref q585, .null, .int (0 : Int32), .null, .null, .null, .int (0 : Int32), .null, .null, .null, .null])), (q8, aI cy 200 (fun _ => 0)), (q16, aI cy 9 a63), (q70, aI cy 34 a269), (q276, aI cy 31 a444), (q451, aI cy 31 (fun _ => 0)), (q460, aI cy 256 (fun _ => 0)), (q469, aZ cy 256 (fun _ => 0)), (q477, aI cy 16 a568), (q576, aI cy 440 (fun _ => 0)), (q585, aI cy 440 (fun _ => 0)), (q594, aI cy 440 (fun _ => 0))] := hD
  refine W.widen (k := 11) (n := 2153) (Nat.le_refl _) (Nat.le_refl _) ?_
  refine va_putF (D := D) (ci := 12) (v := .ref q594) (ty := (.array .int)) (C := RX12) (T := TX12) (N := 29) hx hb hts ui_X12 tyX12 tyX12_ok nmX12 hown hK hP hD hS 0 rfl rfl 19 (by decide) (hts _ fl_X12_41) (fun _ h9 => h9) rfl hin rfl (by decide +kernel) rfl rfl (Nat.le_of_ble_eq_true rfl) dX12_init_596 (fun H locs hP hD hS => ?_)
  have hP : va_P D vwCl [(h, .inr (12, [.ref q8, .int (0 : Int32), .int (0 : Int32), .int (0 : Int32), .int (0 : Int32), .int (0 : Int32), .int (0 : Int32), .int (0 : Int32), .int (0 : Int32), .ref q16, .ref q70, .ref q276, .ref q451, .int (0 : Int32), .ref q460, .ref q469, .ref q477, .ref q576, .ref q585, .ref q594, .int (0 : Int32), .null, .null, .null, .int (0 : Int32), .null, .null, .null, .null])), (q8, aI cy 200 (fun _ => 0)), (q16, aI cy 9 a63), (q70, aI cy 34 a269), (q276, aI cy 31 a444), (q451, aI cy 31 (fun _ => 0)), (q460, aI cy 256 (fun _ => 0)), (q469, aZ cy 256 (fun _ => 0)), (q477, aI cy 16 a568), (q576, aI cy 440 (fun _ => 0)), (q585, aI cy 440 (fun _ => 0)), (q594, aI cy 440 (fun _ => 0))] H := hP
  have hD : va_D A [(h, .inr (12, [.ref q8, .int (0 : Int32), .int (0 : Int32), .int (0 : Int32), .int (0 : Int32), .int (0 : Int32), .int (0 : Int32), .int (0 : Int32), .int (0 : Int32), .ref q16, .ref q70, .ref q276, .ref q451, .int (0 : Int32), .ref q460, .ref q469, .ref q477, .ref q576, .ref q585, .ref q594, .int (0 : Int32), .null, .null, .null, .int (0 : Int32), .null, .null, .null, .null])), (q8, aI cy 200 (fun _ => 0)), (q16, aI cy 9 a63), (q70, aI cy 34 a269), (q276, aI cy 31 a444), (q451, aI cy 31 (fun _ => 0)), (q460, aI cy 256 (fun _ => 0)), (q469, aZ cy 256 (fun _ => 0)), (q477, aI cy 16 a568), (q576, aI cy 440 (fun _ => 0)), (q585, aI cy 440 (fun _ => 0)), (q594, aI cy 440 (fun _ => 0))] := hD
  refine lv_aload_n hx hb dX12_init_599 rfl (lv_at hl 0 rfl) ?_
  refine lv_bipush (v := 12) hx hb dX12_init_600 (by decide) ?_
  refine newI C hP hD hS (by decide) rfl (Nat.le_of_ble_eq_true rfl) (Nat.le_of_ble_eq_true rfl) (Nat.le_of_ble_eq_true rfl) dX12_init_602 (fun q602 H hP hD hS => ?_)
  have hP : va_P D vwCl [(h, .inr (12, [.ref q8, .int (0 : Int32), .int (0 : Int32), .int (0 : Int32), .int (0 : Int32), .int (0 : Int32), .int (0 : Int32), .int (0 : Int32), .int (0 : Int32), .ref q16, .ref q70, .ref q276, .ref q451, .int (0 : Int32), .ref q460, .ref q469, .ref q477, .ref q576, .ref q585, .ref q594, .int (0 : Int32), .null, .null, .null, .int (0 : Int32), .null, .null, .null, .null])), (q8, aI cy 200 (fun _ => 0)), (q16, aI cy 9 a63), (q70, aI cy 34 a269), (q276, aI cy 31 a444), (q451, aI cy 31 (fun _ => 0)), (q460, aI cy 256 (fun _ => 0)), (q469, aZ cy 256 (fun _ => 0)), (q477, aI cy 16 a568), (q576, aI cy 440 (fun _ => 0)), (q585, aI cy 440 (fun _ => 0)), (q594, aI cy 440 (fun _ => 0)), (q602, aI cy 12 (fun _ => 0))] H := hP
  have hD : va_D A [(h, .inr (12, [.ref q8, .int (0 : Int32), .int (0 : Int32), .int (0 : Int32), .int (0 : Int32), .int (0 : Int32), .int (0 : Int32), .int (0 : Int32), .int (0 : Int32), .ref q16, .ref q70, .ref q276, .ref q451, .int (0 : Int32), .ref q460, .ref q469, .ref q477, .ref q576, .ref q585, .ref q594, .int (0 : Int32), .null, .null, .null, .int (0 : Int32), .null, .null, .null, .null])), (q8, aI cy 200 (fun _ => 0)), (q16, aI cy 9 a63), (q70, aI cy 34 a269), (q276, aI cy 31 a444), (q451, aI cy 31 (fun _ => 0)), (q460, aI cy 256 (fun _ => 0)), (q469, aZ cy 256 (fun _ => 0)), (q477, aI cy 16 a568), (q576, aI cy 440 (fun _ => 0)), (q585, aI cy 440 (fun _ => 0)), (q594, aI cy 440 (fun _ => 0)), (q602, aI cy 12 (fun _ => 0))] := hD
  refine W.widen (k := 12) (n := 2165) (Nat.le_refl _) (Nat.le_refl _) ?_
  refine va_putF (D := D) (ci := 12) (v := .ref q602) (ty := (.array .int)) (C := RX12) (T := TX12) (N := 29) hx hb hts ui_X12 tyX12 tyX12_ok nmX12 hown hK hP hD hS 0 rfl rfl 21 (by decide) (hts _ fl_X12_44) (fun _ h9 => h9) rfl hin rfl (by decide +kernel) rfl rfl (Nat.le_of_ble_eq_true rfl) dX12_init_604 (fun H locs hP hD hS => ?_)
  have hP : va_P D vwCl [(h, .inr (12, [.ref q8, .int (0 : Int32), .int (0 : Int32), .int (0 : Int32), .int (0 : Int32), .int (0 : Int32), .int (0 : Int32), .int (0 : Int32), .int (0 : Int32), .ref q16, .ref q70, .ref q276, .ref q451, .int (0 : Int32), .ref q460, .ref q469, .ref q477, .ref q576, .ref q585, .ref q594, .int (0 : Int32), .ref q602, .null, .null, .int (0 : Int32), .null, .null, .null, .null])), (q8, aI cy 200 (fun _ => 0)), (q16, aI cy 9 a63), (q70, aI cy 34 a269), (q276, aI cy 31 a444), (q451, aI cy 31 (fun _ => 0)), (q460, aI cy 256 (fun _ => 0)), (q469, aZ cy 256 (fun _ => 0)), (q477, aI cy 16 a568), (q576, aI cy 440 (fun _ => 0)), (q585, aI cy 440 (fun _ => 0)), (q594, aI cy 440 (fun _ => 0)), (q602, aI cy 12 (fun _ => 0))] H := hP
  have hD : va_D A [(h, .inr (12, [.ref q8, .int (0 : Int32), .int (0 : Int32), .int (0 : Int32), .int (0 : Int32), .int (0 : Int32), .int (0 : Int32), .int (0 : Int32), .int (0 : Int32), .ref q16, .ref q70, .ref q276, .ref q451, .int (0 : Int32), .ref q460, .ref q469, .ref q477, .ref q576, .ref q585, .ref q594, .int (0 : Int32), .ref q602, .null, .null, .int (0 : Int32), .null, .null, .null, .null])), (q8, aI cy 200 (fun _ => 0)), (q16, aI cy 9 a63), (q70, aI cy 34 a269), (q276, aI cy 31 a444), (q451, aI cy 31 (fun _ => 0)), (q460, aI cy 256 (fun _ => 0)), (q469, aZ cy 256 (fun _ => 0)), (q477, aI cy 16 a568), (q576, aI cy 440 (fun _ => 0)), (q585, aI cy 440 (fun _ => 0)), (q594, aI cy 440 (fun _ => 0)), (q602, aI cy 12 (fun _ => 0))] := hD
  refine lv_aload_n hx hb dX12_init_607 rfl (lv_at hl 0 rfl) ?_
  refine lv_bipush (v := 12) hx hb dX12_init_608 (by decide) ?_
  refine newI C hP hD hS (by decide) rfl (Nat.le_of_ble_eq_true rfl) (Nat.le_of_ble_eq_true rfl) (Nat.le_of_ble_eq_true rfl) dX12_init_610 (fun q610 H hP hD hS => ?_)
  have hP : va_P D vwCl [(h, .inr (12, [.ref q8, .int (0 : Int32), .int (0 : Int32), .int (0 : Int32), .int (0 : Int32), .int (0 : Int32), .int (0 : Int32), .int (0 : Int32), .int (0 : Int32), .ref q16, .ref q70, .ref q276, .ref q451, .int (0 : Int32), .ref q460, .ref q469, .ref q477, .ref q576, .ref q585, .ref q594, .int (0 : Int32), .ref q602, .null, .null, .int (0 : Int32), .null, .null, .null, .null])), (q8, aI cy 200 (fun _ => 0)), (q16, aI cy 9 a63), (q70, aI cy 34 a269), (q276, aI cy 31 a444), (q451, aI cy 31 (fun _ => 0)), (q460, aI cy 256 (fun _ => 0)), (q469, aZ cy 256 (fun _ => 0)), (q477, aI cy 16 a568), (q576, aI cy 440 (fun _ => 0)), (q585, aI cy 440 (fun _ => 0)), (q594, aI cy 440 (fun _ => 0)), (q602, aI cy 12 (fun _ => 0)), (q610, aI cy 12 (fun _ => 0))] H := hP
  have hD : va_D A [(h, .inr (12, [.ref q8, .int (0 : Int32), .int (0 : Int32), .int (0 : Int32), .int (0 : Int32), .int (0 : Int32), .int (0 : Int32), .int (0 : Int32), .int (0 : Int32), .ref q16, .ref q70, .ref q276, .ref q451, .int (0 : Int32), .ref q460, .ref q469, .ref q477, .ref q576, .ref q585, .ref q594, .int (0 : Int32), .ref q602, .null, .null, .int (0 : Int32), .null, .null, .null, .null])), (q8, aI cy 200 (fun _ => 0)), (q16, aI cy 9 a63), (q70, aI cy 34 a269), (q276, aI cy 31 a444), (q451, aI cy 31 (fun _ => 0)), (q460, aI cy 256 (fun _ => 0)), (q469, aZ cy 256 (fun _ => 0)), (q477, aI cy 16 a568), (q576, aI cy 440 (fun _ => 0)), (q585, aI cy 440 (fun _ => 0)), (q594, aI cy 440 (fun _ => 0)), (q602, aI cy 12 (fun _ => 0)), (q610, aI cy 12 (fun _ => 0))] := hD
  refine W.widen (k := 13) (n := 2177) (Nat.le_refl _) (Nat.le_refl _) ?_
  refine va_putF (D := D) (ci := 12) (v := .ref q610) (ty := (.array .int)) (C := RX12) (T := TX12) (N := 29) hx hb hts ui_X12 tyX12 tyX12_ok nmX12 hown hK hP hD hS 0 rfl rfl 22 (by decide) (hts _ fl_X12_47) (fun _ h9 => h9) rfl hin rfl (by decide +kernel) rfl rfl (Nat.le_of_ble_eq_true rfl) dX12_init_612 (fun H locs hP hD hS => ?_)
  have hP : va_P D vwCl [(h, .inr (12, [.ref q8, .int (0 : Int32), .int (0 : Int32), .int (0 : Int32), .int (0 : Int32), .int (0 : Int32), .int (0 : Int32), .int (0 : Int32), .int (0 : Int32), .ref q16, .ref q70, .ref q276, .ref q451, .int (0 : Int32), .ref q460, .ref q469, .ref q477, .ref q576, .ref q585, .ref q594, .int (0 : Int32), .ref q602, .ref q610, .null, .int (0 : Int32), .null, .null, .null, .null])), (q8, aI cy 200 (fun _ => 0)), (q16, aI cy 9 a63), (q70, aI cy 34 a269), (q276, aI cy 31 a444), (q451, aI cy 31 (fun _ => 0)), (q460, aI cy 256 (fun _ => 0)), (q469, aZ cy 256 (fun _ => 0)), (q477, aI cy 16 a568), (q576, aI cy 440 (fun _ => 0)), (q585, aI cy 440 (fun _ => 0)), (q594, aI cy 440 (fun _ => 0)), (q602, aI cy 12 (fun _ => 0)), (q610, aI cy 12 (fun _ => 0))] H := hP
  have hD : va_D A [(h, .inr (12, [.ref q8, .int (0 : Int32), .int (0 : Int32), .int (0 : Int32), .int (0 : Int32), .int (0 : Int32), .int (0 : Int32), .int (0 : Int32), .int (0 : Int32), .ref q16, .ref q70, .ref q276, .ref q451, .int (0 : Int32), .ref q460, .ref q469, .ref q477, .ref q576, .ref q585, .ref q594, .int (0 : Int32), .ref q602, .ref q610, .null, .int (0 : Int32), .null, .null, .null, .null])), (q8, aI cy 200 (fun _ => 0)), (q16, aI cy 9 a63), (q70, aI cy 34 a269), (q276, aI cy 31 a444), (q451, aI cy 31 (fun _ => 0)), (q460, aI cy 256 (fun _ => 0)), (q469, aZ cy 256 (fun _ => 0)), (q477, aI cy 16 a568), (q576, aI cy 440 (fun _ => 0)), (q585, aI cy 440 (fun _ => 0)), (q594, aI cy 440 (fun _ => 0)), (q602, aI cy 12 (fun _ => 0)), (q610, aI cy 12 (fun _ => 0))] := hD
  refine lv_aload_n hx hb dX12_init_615 rfl (lv_at hl 0 rfl) ?_
  refine lv_sipush (v := 132) hx hb dX12_init_616 (by decide) ?_
  refine newJ C hP hD hS (by decide) rfl (Nat.le_of_ble_eq_true rfl) (Nat.le_of_ble_eq_true rfl) (Nat.le_of_ble_eq_true rfl) dX12_init_619 (fun q619 H hP hD hS => ?_)
  have hP : va_P D vwCl [(h, .inr (12, [.ref q8, .int (0 : Int32), .int (0 : Int32), .int (0 : Int32), .int (0 : Int32), .int (0 : Int32), .int (0 : Int32), .int (0 : Int32), .int (0 : Int32), .ref q16, .ref q70, .ref q276, .ref q451, .int (0 : Int32), .ref q460, .ref q469, .ref q477, .ref q576, .ref q585, .ref q594, .int (0 : Int32), .ref q602, .ref q610, .null, .int (0 : Int32), .null, .null, .null, .null])), (q8, aI cy 200 (fun _ => 0)), (q16, aI cy 9 a63), (q70, aI cy 34 a269), (q276, aI cy 31 a444), (q451, aI cy 31 (fun _ => 0)), (q460, aI cy 256 (fun _ => 0)), (q469, aZ cy 256 (fun _ => 0)), (q477, aI cy 16 a568), (q576, aI cy 440 (fun _ => 0)), (q585, aI cy 440 (fun _ => 0)), (q594, aI cy 440 (fun _ => 0)), (q602, aI cy 12 (fun _ => 0)), (q610, aI cy 12 (fun _ => 0)), (q619, aJ cy 132 (fun _ => 0))] H := hP
  have hD : va_D A [(h, .inr (12, [.ref q8, .int (0 : Int32), .int (0 : Int32), .int (0 : Int32), .int (0 : Int32), .int (0 : Int32), .int (0 : Int32), .int (0 : Int32), .int (0 : Int32), .ref q16, .ref q70, .ref q276, .ref q451, .int (0 : Int32), .ref q460, .ref q469, .ref q477, .ref q576, .ref q585, .ref q594, .int (0 : Int32), .ref q602, .ref q610, .null, .int (0 : Int32), .null, .null, .null, .null])), (q8, aI cy 200 (fun _ => 0)), (q16, aI cy 9 a63), (q70, aI cy 34 a269), (q276, aI cy 31 a444), (q451, aI cy 31 (fun _ => 0)), (q460, aI cy 256 (fun _ => 0)), (q469, aZ cy 256 (fun _ => 0)), (q477, aI cy 16 a568), (q576, aI cy 440 (fun _ => 0)), (q585, aI cy 440 (fun _ => 0)), (q594, aI cy 440 (fun _ => 0)), (q602, aI cy 12 (fun _ => 0)), (q610, aI cy 12 (fun _ => 0)), (q619, aJ cy 132 (fun _ => 0))] := hD
  refine W.widen (k := 14) (n := 2309) (Nat.le_refl _) (Nat.le_refl _) ?_
  refine va_putF (D := D) (ci := 12) (v := .ref q619) (ty := (.array .long)) (C := RX12) (T := TX12) (N := 29) hx hb hts ui_X12 tyX12 tyX12_ok nmX12 hown hK hP hD hS 0 rfl rfl 23 (by decide) (hts _ fl_X12_50) (fun _ h9 => h9) rfl hin rfl (by decide +kernel) rfl rfl (Nat.le_of_ble_eq_true rfl) dX12_init_621 (fun H locs hP hD hS => ?_)
  have hP : va_P D vwCl [(h, .inr (12, [.ref q8, .int (0 : Int32), .int (0 : Int32), .int (0 : Int32), .int (0 : Int32), .int (0 : Int32), .int (0 : Int32), .int (0 : Int32), .int (0 : Int32), .ref q16, .ref q70, .ref q276, .ref q451, .int (0 : Int32), .ref q460, .ref q469, .ref q477, .ref q576, .ref q585, .ref q594, .int (0 : Int32), .ref q602, .ref q610, .ref q619, .int (0 : Int32), .null, .null, .null, .null])), (q8, aI cy 200 (fun _ => 0)), (q16, aI cy 9 a63), (q70, aI cy 34 a269), (q276, aI cy 31 a444), (q451, aI cy 31 (fun _ => 0)), (q460, aI cy 256 (fun _ => 0)), (q469, aZ cy 256 (fun _ => 0)), (q477, aI cy 16 a568), (q576, aI cy 440 (fun _ => 0)), (q585, aI cy 440 (fun _ => 0)), (q594, aI cy 440 (fun _ => 0)), (q602, aI cy 12 (fun _ => 0)), (q610, aI cy 12 (fun _ => 0)), (q619, aJ cy 132 (fun _ => 0))] H := hP
  have hD : va_D A [(h, .inr (12, [.ref q8, .int (0 : Int32), .int (0 : Int32), .int (0 : Int32), .int (0 : Int32), .int (0 : Int32), .int (0 : Int32), .int (0 : Int32), .int (0 : Int32), .ref q16, .ref q70, .ref q276, .ref q451, .int (0 : Int32), .ref q460, .ref q469, .ref q477, .ref q576, .ref q585, .ref q594, .int (0 : Int32), .ref q602, .ref q610, .ref q619, .int (0 : Int32), .null, .null, .null, .null])), (q8, aI cy 200 (fun _ => 0)), (q16, aI cy 9 a63), (q70, aI cy 34 a269), (q276, aI cy 31 a444), (q451, aI cy 31 (fun _ => 0)), (q460, aI cy 256 (fun _ => 0)), (q469, aZ cy 256 (fun _ => 0)), (q477, aI cy 16 a568), (q576, aI cy 440 (fun _ => 0)), (q585, aI cy 440 (fun _ => 0)), (q594, aI cy 440 (fun _ => 0)), (q602, aI cy 12 (fun _ => 0)), (q610, aI cy 12 (fun _ => 0)), (q619, aJ cy 132 (fun _ => 0))] := hD
  refine lv_aload_n hx hb dX12_init_624 rfl (lv_at hl 0 rfl) ?_
  refine lv_iconst (v := 4) hx hb dX12_init_625 (by decide) ?_
  refine newI C hP hD hS (by decide) rfl (Nat.le_of_ble_eq_true rfl) (Nat.le_of_ble_eq_true rfl) (Nat.le_of_ble_eq_true rfl) dX12_init_626 (fun q626 H hP hD hS => ?_)
  have hP : va_P D vwCl [(h, .inr (12, [.ref q8, .int (0 : Int32), .int (0 : Int32), .int (0 : Int32), .int (0 : Int32), .int (0 : Int32), .int (0 : Int32), .int (0 : Int32), .int (0 : Int32), .ref q16, .ref q70, .ref q276, .ref q451, .int (0 : Int32), .ref q460, .ref q469, .ref q477, .ref q576, .ref q585, .ref q594, .int (0 : Int32), .ref q602, .ref q610, .ref q619, .int (0 : Int32), .null, .null, .null, .null])), (q8, aI cy 200 (fun _ => 0)), (q16, aI cy 9 a63), (q70, aI cy 34 a269), (q276, aI cy 31 a444), (q451, aI cy 31 (fun _ => 0)), (q460, aI cy 256 (fun _ => 0)), (q469, aZ cy 256 (fun _ => 0)), (q477, aI cy 16 a568), (q576, aI cy 440 (fun _ => 0)), (q585, aI cy 440 (fun _ => 0)), (q594, aI cy 440 (fun _ => 0)), (q602, aI cy 12 (fun _ => 0)), (q610, aI cy 12 (fun _ => 0)), (q619, aJ cy 132 (fun _ => 0)), (q626, aI cy 4 (fun _ => 0))] H := hP
  have hD : va_D A [(h, .inr (12, [.ref q8, .int (0 : Int32), .int (0 : Int32), .int (0 : Int32), .int (0 : Int32), .int (0 : Int32), .int (0 : Int32), .int (0 : Int32), .int (0 : Int32), .ref q16, .ref q70, .ref q276, .ref q451, .int (0 : Int32), .ref q460, .ref q469, .ref q477, .ref q576, .ref q585, .ref q594, .int (0 : Int32), .ref q602, .ref q610, .ref q619, .int (0 : Int32), .null, .null, .null, .null])), (q8, aI cy 200 (fun _ => 0)), (q16, aI cy 9 a63), (q70, aI cy 34 a269), (q276, aI cy 31 a444), (q451, aI cy 31 (fun _ => 0)), (q460, aI cy 256 (fun _ => 0)), (q469, aZ cy 256 (fun _ => 0)), (q477, aI cy 16 a568), (q576, aI cy 440 (fun _ => 0)), (q585, aI cy 440 (fun _ => 0)), (q594, aI cy 440 (fun _ => 0)), (q602, aI cy 12 (fun _ => 0)), (q610, aI cy 12 (fun _ => 0)), (q619, aJ cy 132 (fun _ => 0)), (q626, aI cy 4 (fun _ => 0))] := hD
  refine W.widen (k := 15) (n := 2313) (Nat.le_refl _) (Nat.le_refl _) ?_
  refine lv_dup hx hb dX12_init_628 rfl ?_
  refine lv_iconst (v := 0) hx hb dX12_init_629 (by decide) ?_
  refine lv_bipush (v := -4) hx hb dX12_init_630 (by decide) ?_
  obtain ⟨a632, ea632⟩ : ∃ y : Nat → Int32, y = upd (fun _ => (0 : Int32)) (0 : Int32).toNatClampNeg (-4 : Int32) := ⟨_, rfl⟩
  have hf := zl_of hf a632 ea632
  refine va_iast hx hb hK hP hD hS 15 1 rfl rfl (show vp_in (0 : Int32) 4 by unfold vp_in; decide) dX12_init_632 (fun H locs hP hD hS => ?_)
  rw [← ea632] at hP hD
  have hP : va_P D vwCl [(h, .inr (12, [.ref q8, .int (0 : Int32), .int (0 : Int32), .int (0 : Int32), .int (0 : Int32), .int (0 : Int32), .int (0 : Int32), .int (0 : Int32), .int (0 : Int32), .ref q16, .ref q70, .ref q276, .ref q451, .int (0 : Int32), .ref q460, .ref q469, .ref q477, .ref q576, .ref q585, .ref q594, .int (0 : Int32), .ref q602, .ref q610, .ref q619, .int (0 : Int32), .null, .null, .null, .null])), (q8, aI cy 200 (fun _ => 0)), (q16, aI cy 9 a63), (q70, aI cy 34 a269), (q276, aI cy 31 a444), (q451, aI cy 31 (fun _ => 0)), (q460, aI cy 256 (fun _ => 0)), (q469, aZ cy 256 (fun _ => 0)), (q477, aI cy 16 a568), (q576, aI cy 440 (fun _ => 0)), (q585, aI cy 440 (fun _ => 0)), (q594, aI cy 440 (fun _ => 0)), (q602, aI cy 12 (fun _ => 0)), (q610, aI cy 12 (fun _ => 0)), (q619, aJ cy 132 (fun _ => 0)), (q626, aI cy 4 a632)] H := hP
  have hD : va_D A [(h, .inr (12, [.ref q8, .int (0 : Int32), .int (0 : Int32), .int (0 : Int32), .int (0 : Int32), .int (0 : Int32), .int (0 : Int32), .int (0 : Int32), .int (0 : Int32), .ref q16, .ref q70, .ref q276, .ref q451, .int (0 : Int32), .ref q460, .ref q469, .ref q477, .ref q576, .ref q585, .ref q594, .int (0 : Int32), .ref q602, .ref q610, .ref q619, .int (0 : Int32), .null, .null, .null, .null])), (q8, aI cy 200 (fun _ => 0)), (q16, aI cy 9 a63), (q70, aI cy 34 a269), (q276, aI cy 31 a444), (q451, aI cy 31 (fun _ => 0)), (q460, aI cy 256 (fun _ => 0)), (q469, aZ cy 256 (fun _ => 0)), (q477, aI cy 16 a568), (q576, aI cy 440 (fun _ => 0)), (q585, aI cy 440 (fun _ => 0)), (q594, aI cy 440 (fun _ => 0)), (q602, aI cy 12 (fun _ => 0)), (q610, aI cy 12 (fun _ => 0)), (q619, aJ cy 132 (fun _ => 0)), (q626, aI cy 4 a632)] := hD
  refine lv_dup hx hb dX12_init_633 rfl ?_
  refine lv_iconst (v := 1) hx hb dX12_init_634 (by decide) ?_
  refine lv_bipush (v := -4) hx hb dX12_init_635 (by decide) ?_
  obtain ⟨a637, ea637⟩ : ∃ y : Nat → Int32, y = upd a632 (1 : Int32).toNatClampNeg (-4 : Int32) := ⟨_, rfl⟩
  have hf := zl_of hf a637 ea637
  refine va_iast hx hb hK hP hD hS 15 1 rfl rfl (show vp_in (1 : Int32) 4 by unfold vp_in; decide) dX12_init_637 (fun H locs hP hD hS => ?_)
  rw [← ea637] at hP hD
  have hP : va_P D vwCl [(h, .inr (12, [.ref q8, .int (0 : Int32), .int (0 : Int32), .int (0 : Int32), .int (0 : Int32), .int (0 : Int32), .int (0 : Int32), .int (0 : Int32), .int (0 : Int32), .ref q16, .ref q70, .ref q276, .ref q451, .int (0 : Int32), .ref q460, .ref q469, .ref q477, .ref q576, .ref q585, .ref q594, .int (0 : Int32), .ref q602, .ref q610, .ref q619, .int (0 : Int32), .null, .null, .null, .null])), (q8, aI cy 200 (fun _ => 0)), (q16, aI cy 9 a63), (q70, aI cy 34 a269), (q276, aI cy 31 a444), (q451, aI cy 31 (fun _ => 0)), (q460, aI cy 256 (fun _ => 0)), (q469, aZ cy 256 (fun _ => 0)), (q477, aI cy 16 a568), (q576, aI cy 440 (fun _ => 0)), (q585, aI cy 440 (fun _ => 0)), (q594, aI cy 440 (fun _ => 0)), (q602, aI cy 12 (fun _ => 0)), (q610, aI cy 12 (fun _ => 0)), (q619, aJ cy 132 (fun _ => 0)), (q626, aI cy 4 a637)] H := hP
  have hD : va_D A [(h, .inr (12, [.ref q8, .int (0 : Int32), .int (0 : Int32), .int (0 : Int32), .int (0 : Int32), .int (0 : Int32), .int (0 : Int32), .int (0 : Int32), .int (0 : Int32), .ref q16, .ref q70, .ref q276, .ref q451, .int (0 : Int32), .ref q460, .ref q469, .ref q477, .ref q576, .ref q585, .ref q594, .int (0 : Int32), .ref q602, .ref q610, .ref q619, .int (0 : Int32), .null, .null, .null, .null])), (q8, aI cy 200 (fun _ => 0)), (q16, aI cy 9 a63), (q70, aI cy 34 a269), (q276, aI cy 31 a444), (q451, aI cy 31 (fun _ => 0)), (q460, aI cy 256 (fun _ => 0)), (q469, aZ cy 256 (fun _ => 0)), (q477, aI cy 16 a568), (q576, aI cy 440 (fun _ => 0)), (q585, aI cy 440 (fun _ => 0)), (q594, aI cy 440 (fun _ => 0)), (q602, aI cy 12 (fun _ => 0)), (q610, aI cy 12 (fun _ => 0)), (q619, aJ cy 132 (fun _ => 0)), (q626, aI cy 4 a637)] := hD
  refine lv_dup hx hb dX12_init_638 rfl ?_
  refine lv_iconst (v := 2) hx hb dX12_init_639 (by decide) ?_
  refine lv_bipush (v := -4) hx hb dX12_init_640 (by decide) ?_
  obtain ⟨a642, ea642⟩ : ∃ y : Nat → Int32, y = upd a637 (2 : Int32).toNatClampNeg (-4 : Int32) := ⟨_, rfl⟩
  have hf := zl_of hf a642 ea642
  refine va_iast hx hb hK hP hD hS 15 1 rfl rfl (show vp_in (2 : Int32) 4 by unfold vp_in; decide) dX12_init_642 (fun H locs hP hD hS => ?_)
  rw [← ea642] at hP hD
  have hP : va_P D vwCl [(h, .inr (12, [.ref q8, .int (0 : Int32), .int (0 : Int32), .int (0 : Int32), .int (0 : Int32), .int (0 : Int32), .int (0 : Int32), .int (0 : Int32), .int (0 : Int32), .ref q16, .ref q70, .ref q276, .ref q451, .int (0 : Int32), .ref q460, .ref q469, .ref q477, .ref q576, .ref q585, .ref q594, .int (0 : Int32), .ref q602, .ref q610, .ref q619, .int (0 : Int32), .null, .null, .null, .null])), (q8, aI cy 200 (fun _ => 0)), (q16, aI cy 9 a63), (q70, aI cy 34 a269), (q276, aI cy 31 a444), (q451, aI cy 31 (fun _ => 0)), (q460, aI cy 256 (fun _ => 0)), (q469, aZ cy 256 (fun _ => 0)), (q477, aI cy 16 a568), (q576, aI cy 440 (fun _ => 0)), (q585, aI cy 440 (fun _ => 0)), (q594, aI cy 440 (fun _ => 0)), (q602, aI cy 12 (fun _ => 0)), (q610, aI cy 12 (fun _ => 0)), (q619, aJ cy 132 (fun _ => 0)), (q626, aI cy 4 a642)] H := hP
  have hD : va_D A [(h, .inr (12, [.ref q8, .int (0 : Int32), .int (0 : Int32), .int (0 : Int32), .int (0 : Int32), .int (0 : Int32), .int (0 : Int32), .int (0 : Int32), .int (0 : Int32), .ref q16, .ref q70, .ref q276, .ref q451, .int (0 : Int32), .ref q460, .ref q469, .ref q477, .ref q576, .ref q585, .ref q594, .int (0 : Int32), .ref q602, .ref q610, .ref q619, .int (0 : Int32), .null, .null, .null, .null])), (q8, aI cy 200 (fun _ => 0)), (q16, aI cy 9 a63), (q70, aI cy 34 a269), (q276, aI cy 31 a444), (q451, aI cy 31 (fun _ => 0)), (q460, aI cy 256 (fun _ => 0)), (q469, aZ cy 256 (fun _ => 0)), (q477, aI cy 16 a568), (q576, aI cy 440 (fun _ => 0)), (q585, aI cy 440 (fun _ => 0)), (q594, aI cy 440 (fun _ => 0)), (q602, aI cy 12 (fun _ => 0)), (q610, aI cy 12 (fun _ => 0)), (q619, aJ cy 132 (fun _ => 0)), (q626, aI cy 4 a642)] := hD
  refine lv_dup hx hb dX12_init_643 rfl ?_
  refine lv_iconst (v := 3) hx hb dX12_init_644 (by decide) ?_
  refine lv_bipush (v := -4) hx hb dX12_init_645 (by decide) ?_
  obtain ⟨a647, ea647⟩ : ∃ y : Nat → Int32, y = upd a642 (3 : Int32).toNatClampNeg (-4 : Int32) := ⟨_, rfl⟩
  have hf := zl_of hf a647 ea647
  refine va_iast hx hb hK hP hD hS 15 1 rfl rfl (show vp_in (3 : Int32) 4 by unfold vp_in; decide) dX12_init_647 (fun H locs hP hD hS => ?_)
  rw [← ea647] at hP hD
  have hP : va_P D vwCl [(h, .inr (12, [.ref q8, .int (0 : Int32), .int (0 : Int32), .int (0 : Int32), .int (0 : Int32), .int (0 : Int32), .int (0 : Int32), .int (0 : Int32), .int (0 : Int32), .ref q16, .ref q70, .ref q276, .ref q451, .int (0 : Int32), .ref q460, .ref q469, .ref q477, .ref q576, .ref q585, .ref q594, .int (0 : Int32), .ref q602, .ref q610, .ref q619, .int (0 : Int32), .null, .null, .null, .null])), (q8, aI cy 200 (fun _ => 0)), (q16, aI cy 9 a63), (q70, aI cy 34 a269), (q276, aI cy 31 a444), (q451, aI cy 31 (fun _ => 0)), (q460, aI cy 256 (fun _ => 0)), (q469, aZ cy 256 (fun _ => 0)), (q477, aI cy 16 a568), (q576, aI cy 440 (fun _ => 0)), (q585, aI cy 440 (fun _ => 0)), (q594, aI cy 440 (fun _ => 0)), (q602, aI cy 12 (fun _ => 0)), (q610, aI cy 12 (fun _ => 0)), (q619, aJ cy 132 (fun _ => 0)), (q626, aI cy 4 a647)] H := hP
  have hD : va_D A [(h, .inr (12, [.ref q8, .int (0 : Int32), .int (0 : Int32), .int (0 : Int32), .int (0 : Int32), .int (0 : Int32), .int (0 : Int32), .int (0 : Int32), .int (0 : Int32), .ref q16, .ref q70, .ref q276, .ref q451, .int (0 : Int32), .ref q460, .ref q469, .ref q477, .ref q576, .ref q585, .ref q594, .int (0 : Int32), .ref q602, .ref q610, .ref q619, .int (0 : Int32), .null, .null, .null, .null])), (q8, aI cy 200 (fun _ => 0)), (q16, aI cy 9 a63), (q70, aI cy 34 a269), (q276, aI cy 31 a444), (q451, aI cy 31 (fun _ => 0)), (q460, aI cy 256 (fun _ => 0)), (q469, aZ cy 256 (fun _ => 0)), (q477, aI cy 16 a568), (q576, aI cy 440 (fun _ => 0)), (q585, aI cy 440 (fun _ => 0)), (q594, aI cy 440 (fun _ => 0)), (q602, aI cy 12 (fun _ => 0)), (q610, aI cy 12 (fun _ => 0)), (q619, aJ cy 132 (fun _ => 0)), (q626, aI cy 4 a647)] := hD
  refine va_putF (D := D) (ci := 12) (v := .ref q626) (ty := (.array .int)) (C := RX12) (T := TX12) (N := 29) hx hb hts ui_X12 tyX12 tyX12_ok nmX12 hown hK hP hD hS 0 rfl rfl 25 (by decide) (hts _ fl_X12_54) (fun _ h9 => h9) rfl hin rfl (by decide +kernel) rfl rfl (Nat.le_of_ble_eq_true rfl) dX12_init_648 (fun H locs hP hD hS => ?_)
  have hP : va_P D vwCl [(h, .inr (12, [.ref q8, .int (0 : Int32), .int (0 : Int32), .int (0 : Int32), .int (0 : Int32), .int (0 : Int32), .int (0 : Int32), .int (0 : Int32), .int (0 : Int32), .ref q16, .ref q70, .ref q276, .ref q451, .int (0 : Int32), .ref q460, .ref q469, .ref q477, .ref q576, .ref q585, .ref q594, .int (0 : Int32), .ref q602, .ref q610, .ref q619, .int (0 : Int32), .ref q626, .null, .null, .null])), (q8, aI cy 200 (fun _ => 0)), (q16, aI cy 9 a63), (q70, aI cy 34 a269), (q276, aI cy 31 a444), (q451, aI cy 31 (fun _ => 0)), (q460, aI cy 256 (fun _ => 0)), (q469, aZ cy 256 (fun _ => 0)), (q477, aI cy 16 a568), (q576, aI cy 440 (fun _ => 0)), (q585, aI cy 440 (fun _ => 0)), (q594, aI cy 440 (fun _ => 0)), (q602, aI cy 12 (fun _ => 0)), (q610, aI cy 12 (fun _ => 0)), (q619, aJ cy 132 (fun _ => 0)), (q626, aI cy 4 a647)] H := hP
  have hD : va_D A [(h, .inr (12, [.ref q8, .int (0 : Int32), .int (0 : Int32), .int (0 : Int32), .int (0 : Int32), .int (0 : Int32), .int (0 : Int32), .int (0 : Int32), .int (0 : Int32), .ref q16, .ref q70, .ref q276, .ref q451, .int (0 : Int32), .ref q460, .ref q469, .ref q477, .ref q576, .ref q585, .ref q594, .int (0 : Int32), .ref q602, .ref q610, .ref q619, .int (0 : Int32), .ref q626, .null, .null, .null])), (q8, aI cy 200 (fun _ => 0)), (q16, aI cy 9 a63), (q70, aI cy 34 a269), (q276, aI cy 31 a444), (q451, aI cy 31 (fun _ => 0)), (q460, aI cy 256 (fun _ => 0)), (q469, aZ cy 256 (fun _ => 0)), (q477, aI cy 16 a568), (q576, aI cy 440 (fun _ => 0)), (q585, aI cy 440 (fun _ => 0)), (q594, aI cy 440 (fun _ => 0)), (q602, aI cy 12 (fun _ => 0)), (q610, aI cy 12 (fun _ => 0)), (q619, aJ cy 132 (fun _ => 0)), (q626, aI cy 4 a647)] := hD
  refine lv_aload_n hx hb dX12_init_651 rfl (lv_at hl 0 rfl) ?_
  refine lv_iconst (v := 4) hx hb dX12_init_652 (by decide) ?_
  refine newI C hP hD hS (by decide) rfl (Nat.le_of_ble_eq_true rfl) (Nat.le_of_ble_eq_true rfl) (Nat.le_of_ble_eq_true rfl) dX12_init_653 (fun q653 H hP hD hS => ?_)
  have hP : va_P D vwCl [(h, .inr (12, [.ref q8, .int (0 : Int32), .int (0 : Int32), .int (0 : Int32), .int (0 : Int32), .int (0 : Int32), .int (0 : Int32), .int (0 : Int32), .int (0 : Int32), .ref q16, .ref q70, .ref q276, .ref q451, .int (0 : Int32), .ref q460, .ref q469, .ref q477, .ref q576, .ref q585, .ref q594, .int (0 : Int32), .ref q602, .ref q610, .ref q619, .int (0 : Int32), .ref q626, .null, .null, .null])), (q8, aI cy 200 (fun _ => 0)), (q16, aI cy 9 a63), (q70, aI cy 34 a269), (q276, aI cy 31 a444), (q451, aI cy 31 (fun _ => 0)), (q460, aI cy 256 (fun _ => 0)), (q469, aZ cy 256 (fun _ => 0)), (q477, aI cy 16 a568), (q576, aI cy 440 (fun _ => 0)), (q585, aI cy 440 (fun _ => 0)), (q594, aI cy 440 (fun _ => 0)), (q602, aI cy 12 (fun _ => 0)), (q610, aI cy 12 (fun _ => 0)), (q619, aJ cy 132 (fun _ => 0)), (q626, aI cy 4 a647), (q653, aI cy 4 (fun _ => 0))] H := hP
  have hD : va_D A [(h, .inr (12, [.ref q8, .int (0 : Int32), .int (0 : Int32), .int (0 : Int32), .int (0 : Int32), .int (0 : Int32), .int (0 : Int32), .int (0 : Int32), .int (0 : Int32), .ref q16, .ref q70, .ref q276, .ref q451, .int (0 : Int32), .ref q460, .ref q469, .ref q477, .ref q576, .ref q585, .ref q594, .int (0 : Int32), .ref q602, .ref q610, .ref q619, .int (0 : Int32), .ref q626, .null, .null, .null])), (q8, aI cy 200 (fun _ => 0)), (q16, aI cy 9 a63), (q70, aI cy 34 a269), (q276, aI cy 31 a444), (q451, aI cy 31 (fun _ => 0)), (q460, aI cy 256 (fun _ => 0)), (q469, aZ cy 256 (fun _ => 0)), (q477, aI cy 16 a568), (q576, aI cy 440 (fun _ => 0)), (q585, aI cy 440 (fun _ => 0)), (q594, aI cy 440 (fun _ => 0)), (q602, aI cy 12 (fun _ => 0)), (q610, aI cy 12 (fun _ => 0)), (q619, aJ cy 132 (fun _ => 0)), (q626, aI cy 4 a647), (q653, aI cy 4 (fun _ => 0))] := hD
  refine W.widen (k := 16) (n := 2317) (Nat.le_refl _) (Nat.le_refl _) ?_
  refine va_putF (D := D) (ci := 12) (v := .ref q653) (ty := (.array .int)) (C := RX12) (T := TX12) (N := 29) hx hb hts ui_X12 tyX12 tyX12_ok nmX12 hown hK hP hD hS 0 rfl rfl 26 (by decide) (hts _ fl_X12_57) (fun _ h9 => h9) rfl hin rfl (by decide +kernel) rfl rfl (Nat.le_of_ble_eq_true rfl) dX12_init_655 (fun H locs hP hD hS => ?_)
  have hP : va_P D vwCl [(h, .inr (12, [.ref q8, .int (0 : Int32), .int (0 : Int32), .int (0 : Int32), .int (0 : Int32), .int (0 : Int32), .int (0 : Int32), .int (0 : Int32), .int (0 : Int32), .ref q16, .ref q70, .ref q276, .ref q451, .int (0 : Int32), .ref q460, .ref q469, .ref q477, .ref q576, .ref q585, .ref q594, .int (0 : Int32), .ref q602, .ref q610, .ref q619, .int (0 : Int32), .ref q626, .ref q653, .null, .null])), (q8, aI cy 200 (fun _ => 0)), (q16, aI cy 9 a63), (q70, aI cy 34 a269), (q276, aI cy 31 a444), (q451, aI cy 31 (fun _ => 0)), (q460, aI cy 256 (fun _ => 0)), (q469, aZ cy 256 (fun _ => 0)), (q477, aI cy 16 a568), (q576, aI cy 440 (fun _ => 0)), (q585, aI cy 440 (fun _ => 0)), (q594, aI cy 440 (fun _ => 0)), (q602, aI cy 12 (fun _ => 0)), (q610, aI cy 12 (fun _ => 0)), (q619, aJ cy 132 (fun _ => 0)), (q626, aI cy 4 a647), (q653, aI cy 4 (fun _ => 0))] H := hP
  have hD : va_D A [(h, .inr (12, [.ref q8, .int (0 : Int32), .int (0 : Int32), .int (0 : Int32), .int (0 : Int32), .int (0 : Int32), .int (0 : Int32), .int (0 : Int32), .int (0 : Int32), .ref q16, .ref q70, .ref q276, .ref q451, .int (0 : Int32), .ref q460, .ref q469, .ref q477, .ref q576, .ref q585, .ref q594, .int (0 : Int32), .ref q602, .ref q610, .ref q619, .int (0 : Int32), .ref q626, .ref q653, .null, .null])), (q8, aI cy 200 (fun _ => 0)), (q16, aI cy 9 a63), (q70, aI cy 34 a269), (q276, aI cy 31 a444), (q451, aI cy 31 (fun _ => 0)), (q460, aI cy 256 (fun _ => 0)), (q469, aZ cy 256 (fun _ => 0)), (q477, aI cy 16 a568), (q576, aI cy 440 (fun _ => 0)), (q585, aI cy 440 (fun _ => 0)), (q594, aI cy 440 (fun _ => 0)), (q602, aI cy 12 (fun _ => 0)), (q610, aI cy 12 (fun _ => 0)), (q619, aJ cy 132 (fun _ => 0)), (q626, aI cy 4 a647), (q653, aI cy 4 (fun _ => 0))] := hD
  refine lv_aload_n hx hb dX12_init_658 rfl (lv_at hl 0 rfl) ?_
  refine lv_sipush (v := 256) hx hb dX12_init_659 (by decide) ?_
  refine newI C hP hD hS (by decide) rfl (Nat.le_of_ble_eq_true rfl) (Nat.le_of_ble_eq_true rfl) (Nat.le_of_ble_eq_true rfl) dX12_init_662 (fun q662 H hP hD hS => ?_)
  have hP : va_P D vwCl [(h, .inr (12, [.ref q8, .int (0 : Int32), .int (0 : Int32), .int (0 : Int32), .int (0 : Int32), .int (0 : Int32), .int (0 : Int32), .int (0 : Int32), .int (0 : Int32), .ref q16, .ref q70, .ref q276, .ref q451, .int (0 : Int32), .ref q460, .ref q469, .ref q477, .ref q576, .ref q585, .ref q594, .int (0 : Int32), .ref q602, .ref q610, .ref q619, .int (0 : Int32), .ref q626, .ref q653, .null, .null])), (q8, aI cy 200 (fun _ => 0)), (q16, aI cy 9 a63), (q70, aI cy 34 a269), (q276, aI cy 31 a444), (q451, aI cy 31 (fun _ => 0)), (q460, aI cy 256 (fun _ => 0)), (q469, aZ cy 256 (fun _ => 0)), (q477, aI cy 16 a568), (q576, aI cy 440 (fun _ => 0)), (q585, aI cy 440 (fun _ => 0)), (q594, aI cy 440 (fun _ => 0)), (q602, aI cy 12 (fun _ => 0)), (q610, aI cy 12 (fun _ => 0)), (q619, aJ cy 132 (fun _ => 0)), (q626, aI cy 4 a647), (q653, aI cy 4 (fun _ => 0)), (q662, aI cy 256 (fun _ => 0))] H := hP
  have hD : va_D A [(h, .inr (12, [.ref q8, .int (0 : Int32), .int (0 : Int32), .int (0 : Int32), .int (0 : Int32), .int (0 : Int32), .int (0 : Int32), .int (0 : Int32), .int (0 : Int32), .ref q16, .ref q70, .ref q276, .ref q451, .int (0 : Int32), .ref q460, .ref q469, .ref q477, .ref q576, .ref q585, .ref q594, .int (0 : Int32), .ref q602, .ref q610, .ref q619, .int (0 : Int32), .ref q626, .ref q653, .null, .null])), (q8, aI cy 200 (fun _ => 0)), (q16, aI cy 9 a63), (q70, aI cy 34 a269), (q276, aI cy 31 a444), (q451, aI cy 31 (fun _ => 0)), (q460, aI cy 256 (fun _ => 0)), (q469, aZ cy 256 (fun _ => 0)), (q477, aI cy 16 a568), (q576, aI cy 440 (fun _ => 0)), (q585, aI cy 440 (fun _ => 0)), (q594, aI cy 440 (fun _ => 0)), (q602, aI cy 12 (fun _ => 0)), (q610, aI cy 12 (fun _ => 0)), (q619, aJ cy 132 (fun _ => 0)), (q626, aI cy 4 a647), (q653, aI cy 4 (fun _ => 0)), (q662, aI cy 256 (fun _ => 0))] := hD
  refine W.widen (k := 17) (n := 2573) (Nat.le_refl _) (Nat.le_refl _) ?_
  refine va_putF (D := D) (ci := 12) (v := .ref q662) (ty := (.array .int)) (C := RX12) (T := TX12) (N := 29) hx hb hts ui_X12 tyX12 tyX12_ok nmX12 hown hK hP hD hS 0 rfl rfl 27 (by decide) (hts _ fl_X12_60) (fun _ h9 => h9) rfl hin rfl (by decide +kernel) rfl rfl (Nat.le_of_ble_eq_true rfl) dX12_init_664 (fun H locs hP hD hS => ?_)
  have hP : va_P D vwCl [(h, .inr (12, [.ref q8, .int (0 : Int32), .int (0 : Int32), .int (0 : Int32), .int (0 : Int32), .int (0 : Int32), .int (0 : Int32), .int (0 : Int32), .int (0 : Int32), .ref q16, .ref q70, .ref q276, .ref q451, .int (0 : Int32), .ref q460, .ref q469, .ref q477, .ref q576, .ref q585, .ref q594, .int (0 : Int32), .ref q602, .ref q610, .ref q619, .int (0 : Int32), .ref q626, .ref q653, .ref q662, .null])), (q8, aI cy 200 (fun _ => 0)), (q16, aI cy 9 a63), (q70, aI cy 34 a269), (q276, aI cy 31 a444), (q451, aI cy 31 (fun _ => 0)), (q460, aI cy 256 (fun _ => 0)), (q469, aZ cy 256 (fun _ => 0)), (q477, aI cy 16 a568), (q576, aI cy 440 (fun _ => 0)), (q585, aI cy 440 (fun _ => 0)), (q594, aI cy 440 (fun _ => 0)), (q602, aI cy 12 (fun _ => 0)), (q610, aI cy 12 (fun _ => 0)), (q619, aJ cy 132 (fun _ => 0)), (q626, aI cy 4 a647), (q653, aI cy 4 (fun _ => 0)), (q662, aI cy 256 (fun _ => 0))] H := hP
  have hD : va_D A [(h, .inr (12, [.ref q8, .int (0 : Int32), .int (0 : Int32), .int (0 : Int32), .int (0 : Int32), .int (0 : Int32), .int (0 : Int32), .int (0 : Int32), .int (0 : Int32), .ref q16, .ref q70, .ref q276, .ref q451, .int (0 : Int32), .ref q460, .ref q469, .ref q477, .ref q576, .ref q585, .ref q594, .int (0 : Int32), .ref q602, .ref q610, .ref q619, .int (0 : Int32), .ref q626, .ref q653, .ref q662, .null])), (q8, aI cy 200 (fun _ => 0)), (q16, aI cy 9 a63), (q70, aI cy 34 a269), (q276, aI cy 31 a444), (q451, aI cy 31 (fun _ => 0)), (q460, aI cy 256 (fun _ => 0)), (q469, aZ cy 256 (fun _ => 0)), (q477, aI cy 16 a568), (q576, aI cy 440 (fun _ => 0)), (q585, aI cy 440 (fun _ => 0)), (q594, aI cy 440 (fun _ => 0)), (q602, aI cy 12 (fun _ => 0)), (q610, aI cy 12 (fun _ => 0)), (q619, aJ cy 132 (fun _ => 0)), (q626, aI cy 4 a647), (q653, aI cy 4 (fun _ => 0)), (q662, aI cy 256 (fun _ => 0))] := hD
  refine lv_aload_n hx hb dX12_init_667 rfl (lv_at hl 0 rfl) ?_
  refine lv_sipush (v := 256) hx hb dX12_init_668 (by decide) ?_
  refine newI C hP hD hS (by decide) rfl (Nat.le_of_ble_eq_true rfl) (Nat.le_of_ble_eq_true rfl) (Nat.le_of_ble_eq_true rfl) dX12_init_671 (fun q671 H hP hD hS => ?_)
  have hP : va_P D vwCl [(h, .inr (12, [.ref q8, .int (0 : Int32), .int (0 : Int32), .int (0 : Int32), .int (0 : Int32), .int (0 : Int32), .int (0 : Int32), .int (0 : Int32), .int (0 : Int32), .ref q16, .ref q70, .ref q276, .ref q451, .int (0 : Int32), .ref q460, .ref q469, .ref q477, .ref q576, .ref q585, .ref q594, .int (0 : Int32), .ref q602, .ref q610, .ref q619, .int (0 : Int32), .ref q626, .ref q653, .ref q662, .null])), (q8, aI cy 200 (fun _ => 0)), (q16, aI cy 9 a63), (q70, aI cy 34 a269), (q276, aI cy 31 a444), (q451, aI cy 31 (fun _ => 0)), (q460, aI cy 256 (fun _ => 0)), (q469, aZ cy 256 (fun _ => 0)), (q477, aI cy 16 a568), (q576, aI cy 440 (fun _ => 0)), (q585, aI cy 440 (fun _ => 0)), (q594, aI cy 440 (fun _ => 0)), (q602, aI cy 12 (fun _ => 0)), (q610, aI cy 12 (fun _ => 0)), (q619, aJ cy 132 (fun _ => 0)), (q626, aI cy 4 a647), (q653, aI cy 4 (fun _ => 0)), (q662, aI cy 256 (fun _ => 0)), (q671, aI cy 256 (fun _ => 0))] H := hP
  have hD : va_D A [(h, .inr (12, [.ref q8, .int (0 : Int32), .int (0 : Int32), .int (0 : Int32), .int (0 : Int32), .int (0 : Int32), .int (0 : Int32), .int (0 : Int32), .int (0 : Int32), .ref q16, .ref q70, .ref q276, .ref q451, .int (0 : Int32), .ref q460, .ref q469, .ref q477, .ref q576, .ref q585, .ref q594, .int (0 : Int32), .ref q602, .ref q610, .ref q619, .int (0 : Int32), .ref q626, .ref q653, .ref q662, .null])), (q8, aI cy 200 (fun _ => 0)), (q16, aI cy 9 a63), (q70, aI cy 34 a269), (q276, aI cy 31 a444), (q451, aI cy 31 (fun _ => 0)), (q460, aI cy 256 (fun _ => 0)), (q469, aZ cy 256 (fun _ => 0)), (q477, aI cy 16 a568), (q576, aI cy 440 (fun _ => 0)), (q585, aI cy 440 (fun _ => 0)), (q594, aI cy 440 (fun _ => 0)), (q602, aI cy 12 (fun _ => 0)), (q610, aI cy 12 (fun _ => 0)), (q619, aJ cy 132 (fun _ => 0)), (q626, aI cy 4 a647), (q653, aI cy 4 (fun _ => 0)), (q662, aI cy 256 (fun _ => 0)), (q671, aI cy 256 (fun _ => 0))] := hD
  refine W.widen (k := 18) (n := 2829) (Nat.le_refl _) (Nat.le_refl _) ?_
  refine va_putF (D := D) (ci := 12) (v := .ref q671) (ty := (.array .int)) (C := RX12) (T := TX12) (N := 29) hx hb hts ui_X12 tyX12 tyX12_ok nmX12 hown hK hP hD hS 0 rfl rfl 28 (by decide) (hts _ fl_X12_63) (fun _ h9 => h9) rfl hin rfl (by decide +kernel) rfl rfl (Nat.le_of_ble_eq_true rfl) dX12_init_673 (fun H locs hP hD hS => ?_)
  have hP : va_P D vwCl [(h, .inr (12, [.ref q8, .int (0 : Int32), .int (0 : Int32), .int (0 : Int32), .int (0 : Int32), .int (0 : Int32), .int (0 : Int32), .int (0 : Int32), .int (0 : Int32), .ref q16, .ref q70, .ref q276, .ref q451, .int (0 : Int32), .ref q460, .ref q469, .ref q477, .ref q576, .ref q585, .ref q594, .int (0 : Int32), .ref q602, .ref q610, .ref q619, .int (0 : Int32), .ref q626, .ref q653, .ref q662, .ref q671])), (q8, aI cy 200 (fun _ => 0)), (q16, aI cy 9 a63), (q70, aI cy 34 a269), (q276, aI cy 31 a444), (q451, aI cy 31 (fun _ => 0)), (q460, aI cy 256 (fun _ => 0)), (q469, aZ cy 256 (fun _ => 0)), (q477, aI cy 16 a568), (q576, aI cy 440 (fun _ => 0)), (q585, aI cy 440 (fun _ => 0)), (q594, aI cy 440 (fun _ => 0)), (q602, aI cy 12 (fun _ => 0)), (q610, aI cy 12 (fun _ => 0)), (q619, aJ cy 132 (fun _ => 0)), (q626, aI cy 4 a647), (q653, aI cy 4 (fun _ => 0)), (q662, aI cy 256 (fun _ => 0)), (q671, aI cy 256 (fun _ => 0))] H := hP
  have hD : va_D A [(h, .inr (12, [.ref q8, .int (0 : Int32), .int (0 : Int32), .int (0 : Int32), .int (0 : Int32), .int (0 : Int32), .int (0 : Int32), .int (0 : Int32), .int (0 : Int32), .ref q16, .ref q70, .ref q276, .ref q451, .int (0 : Int32), .ref q460, .ref q469, .ref q477, .ref q576, .ref q585, .ref q594, .int (0 : Int32), .ref q602, .ref q610, .ref q619, .int (0 : Int32), .ref q626, .ref q653, .ref q662, .ref q671])), (q8, aI cy 200 (fun _ => 0)), (q16, aI cy 9 a63), (q70, aI cy 34 a269), (q276, aI cy 31 a444), (q451, aI cy 31 (fun _ => 0)), (q460, aI cy 256 (fun _ => 0)), (q469, aZ cy 256 (fun _ => 0)), (q477, aI cy 16 a568), (q576, aI cy 440 (fun _ => 0)), (q585, aI cy 440 (fun _ => 0)), (q594, aI cy 440 (fun _ => 0)), (q602, aI cy 12 (fun _ => 0)), (q610, aI cy 12 (fun _ => 0)), (q619, aJ cy 132 (fun _ => 0)), (q626, aI cy 4 a647), (q653, aI cy 4 (fun _ => 0)), (q662, aI cy 256 (fun _ => 0)), (q671, aI cy 256 (fun _ => 0))] := hD
  obtain rfl := Option.some.inj hf
  exact ret_n (fun k => ([q8, q16, q70, q276, q451, q460, q469, q477, q576, q585, q594, q602, q610, q619, q626, q653, q662, q671] : List Nat).getD k 0) C (hP.sub [0, 1, 2, 3, 4, 5, 6, 7, 8, 9, 10, 11, 12, 13, 14, 15, 16, 17, 18] rfl) (hD.sub [0, 1, 2, 3, 4, 5, 6, 7, 8, 9, 10, 11, 12, 13, 14, 15, 16, 17, 18] (by decide) rfl) hS dX12_init_676
theorem hd_X12_init : yX12_init.cls ≠ "java/lang/invoke/MethodHandle" ∧ yX12_init.cls ≠ "java/lang/invoke/VarHandle" ∧ (parseMethodDescriptor yX12_init.desc).map (fun d => d.parameters.length) = some 0 := by decide +kernel
