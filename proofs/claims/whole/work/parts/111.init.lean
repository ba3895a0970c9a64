/-! a new object on both sides -/
def m0 : Nat → Int32 := fil (fun _ => 0) (fun _ => 0) 9
def r0 : Nat → Int32 := fil (fun _ => 10) (fun _ => 0) 16
def k0 : Nat → Int32 := fil (fun _ => -4) (fun _ => 0) 16
def o0 : Nat → Int32 := fil (OV 4 16 0 0 m0) (fun _ => 0) (2 ^ 4)
def zX0 : TX := (4, 16, 0, 0, 100, 0, m0, r0, 4, 16, 0, 0, 100, 0, m0, r0, 0, 0, 0, 0, 0, (fun _ => 0), 0, 0, 0, 0, 0, o0, 0, -1, 0, 1, 0, k0, (fun _ => 0), 1, 0, 1, 0, 0, -4, 1, 0, 1, 0, 0, -4, 0, 0, 1, (fun _ => 0), (fun _ => 0), (fun _ => 0), -4, 0, (fun _ => 0), 0, -4, (fun _ => 0), 0, -4, (fun _ => 0), 0, -4, (fun _ => 0), 0, -4, (fun _ => 0))
theorem i_X5 : f_X5_init = some (4, 16, 0, 0, 100, 0, m0, r0) := by
  unfold f_X5_init f_X5_reset
  rw [j_fill _ _ (by decide), zb_s, j_fill _ _ (by decide), zb_s, zb_s]
  rfl
theorem i_X8 : f_X8_init 4 16 0 0 m0 = some (o0, 0, -1) := by
  unfold f_X8_init f_X7_init
  rw [zb_s, show (4 : Int32) = nI 4 from rfl, x_reckon (by decide) (by decide), zb_s]
  rfl
theorem i_X0 : f_X0_init = some (0, k0, fun _ => 0) := by
  unfold f_X0_init
  rw [j_fill _ _ (by decide), zb_s]
  rfl
set_option maxRecDepth 100000 in
set_option maxHeartbeats 4000000 in
theorem i_X11 : f_X11_init = some zX0 := by
  unfold f_X11_init
  simp only [i_X5, i_X0, f_X9_init, f_X4_init, f_X1_init, f_X2_init, f_X3_init, f_X6_init, f_X10_init, zb_s, i_X8]
  rfl
def zM0 : TM := f_X12_init.getD default
theorem i_X12 : f_X12_init = some zM0 := rfl
theorem i_holds : (∀ i, i < 31 → M_holds zM0 i = ([4, 16, 0, 0, 0, 100, 0, 0, 0, 0, 0, 0, 0, 0, 0, 10, 10, 10, 10, 10, 10, 10, 10, 10, 10, 10, 10, 10, 10, 10, 10] : List Int32).getD i 0) := by decide +kernel
theorem i_stuck : (∀ i, i < 16 → M_stuck zM0 i = -4) := by decide +kernel
theorem i_lanes : (∀ i, i < 4 → M_lanes zM0 i = -4) := by decide +kernel
theorem i_ends : (∀ i, i < 9 → M_ends zM0 i = endsL.getD i 0) := by decide +kernel
theorem i_letters : (∀ i, i < 34 → M_letters zM0 i = lettersL.getD i 0) := by decide +kernel
theorem i_RI : RI 4 16 0 0 0 100 m0 r0 (M_holds zM0) := by
  refine ⟨by decide, i_holds 0 (by decide), i_holds 1 (by decide), i_holds 2 (by decide), i_holds 3 (by decide), i_holds 4 (by decide), i_holds 5 (by decide), ?_, ?_, Or.inl rfl, by decide, by decide, by decide, by decide, ?_, ?_, fun h => absurd h (by decide)⟩
  · decide +kernel
  · decide +kernel
  · intro i hi
    unfold m0
    rw [fil_in hi]
    decide
  · intro i hi
    unfold r0
    rw [fil_in hi]
    decide
set_option maxRecDepth 100000 in
set_option maxHeartbeats 4000000 in
theorem init_inv : INIT Inv := by
  refine ⟨zX0, zM0, i_X11, i_X12, 4, rfl, i_RI, ?_, ?_, rfl, ?_, ?_, ?_, ?_, ?_, ?_, ⟨i_ends, i_letters⟩, rfl⟩
  · intro c hc
    show o0 c = _
    unfold o0
    rw [fil_in hc]
    rfl
  · exact ⟨0, by decide, rfl, rfl, fun j hj => by omega⟩
  · intro j h1 h2
    have e : k0 j = -4 := by unfold k0; rw [fil_in h2]
    show k0 j = M_stuck zM0 j ∧ (k0 j = 0 ∨ k0 j = 1 ∨ k0 j = -4)
    rw [i_stuck j h2, e]
    simp
  · exact ⟨0, by decide, rfl, rfl, fun i hi => by omega, fun i j hi hj => by omega⟩
  · exact ⟨Or.inl ⟨rfl, i_lanes 0 (by decide)⟩, fun i hi => rfl⟩
  · exact ⟨Or.inl ⟨rfl, i_lanes 1 (by decide)⟩, fun i hi => rfl⟩
  · exact ⟨Or.inl ⟨rfl, i_lanes 2 (by decide)⟩, fun i hi => rfl⟩
  · exact ⟨Or.inl ⟨rfl, i_lanes 3 (by decide)⟩, fun i hi => rfl⟩
