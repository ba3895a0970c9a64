/-! the String constants: String.length, String.charAt on them -/
def isS (i a ab : Nat) (A : Nat → Prop) (U : State) (H : Heap) : Prop := va_O "java/lang/String" a A U H ∧ va_OF "java/lang/String" "coder" "B" (.int 0) a A U H ∧ va_OF "java/lang/String" "value" "[B" (.ref ab) a A U H ∧ va_T .byte ab (slen.getD i 0) (fun j => .int ((sbyt.getD i []).getD j 0)) A U H
theorem isS.go {i a ab : Nat} {A B : Nat → Prop} {s U : State} {H0 H : Heap} (h : isS i a ab A s H0) (hq : ∀ a : Nat, a < H0.size → ¬ A a → H[a]? = H0[a]?) (hAB : ∀ q, B q → A q) (hW : s.vm.Alike U.vm) : isS i a ab B U H := by
  obtain ⟨h1, h2, h3, h4⟩ := h
  exact ⟨((h1.kept hq).narrow hAB).moved hW, ((h2.kept hq).narrow hAB).moved hW, ((h3.kept hq).narrow hAB).moved hW, ((h4.kept hq).narrow hAB).moved hW⟩
theorem nx.str {A : Nat → Prop} {s : State} {H : Heap} (h : nx A s H) {i : Nat} (hi : i < 8) : ∃ a ab : Nat, isS i a ab A s H ∧ vk_R "VoltNumbers$Reader" (stv.getD i (0, "")).1 (stv.getD i (0, "")).2 a s := by
  obtain ⟨h1, h2, h3, adK, adV, h4, h5⟩ := h
  obtain ⟨g1, g2, g3, g4⟩ := h4.1 i hi
  exact ⟨adK i, adV i, ⟨g1, g2, g3, g4⟩, h5 i hi⟩
abbrev kpS (D : va_G) (cy : Nat → ClassId) (sz : Nat) (av : List Value) (ws : va_W) (i a ab : Nat) : Array Value → State → Prop := va_Pc av (fun U => U.heap.size = sz ∧ va_P D vwCl ws U.heap ∧ va_K D vwCl (wtys cy) U ∧ va_D (fun _ => True) ws ∧ nx (va_A ws sz) U U.heap ∧ isS i a ab (va_A ws sz) U U.heap)
theorem kpS_blind {D : va_G} {cy : Nat → ClassId} {sz : Nat} {av : List Value} {ws : va_W} {i a ab : Nat} : FrameBlind (kpS D cy sz av ws i a ab) := fun b U g mk q => by
  obtain ⟨q0, q1, qP, qK, qD, qN, qS⟩ := q
  exact ⟨q0, q1, qP, va_K.moved (u := U) (U := U.calling g mk b) (Vm.Alike.refl U.vm) qK, qD, nx.same (s := U) (U := U.calling g mk b) rfl (Vm.Alike.refl U.vm) qN, qS.go (U := U.calling g mk b) (H := U.heap) (fun _ _ _ => rfl) (fun _ h => h) (Vm.Alike.refl U.vm)⟩
section
variable {p : Program} {l : Launch} {e : Env} {R : Room} {s : State} {m : MethodId} {args : Array Value} {below : List Frame} {meth : Method} {c : Code} {H : Heap} {locs : List Loc} {Q : State → Prop} {D : va_G} {cy : Nat → ClassId} {A : Nat → Prop} {ls : Array Slot} {cc : ByteArray} {nL pc : Nat} {rt : Option FieldType} {own : String}
theorem kpS_pre {av : List Value} {wc : va_W} {i a ab : Nat} (hPc : va_P D vwCl wc H) (hKc : va_K D vwCl (wtys cy) s) (hDc : va_D A wc) (hS : va_S A s.heap H locs) (hA : ∀ q : Nat, s.heap.size ≤ q → A q) (hN : nx A s s.heap) (hs : isS i a ab A s s.heap) : ∀ U : State, U.heap = H → s.WarmedH U.vm → kpS D cy H.size av wc i a ab av.toArray U := by
  intro U hU hW
  obtain ⟨k0, k1, k2, k3, k4, k5⟩ := kp_pre (av := av) hPc hKc hDc hS hA hN U hU hW
  have hAB : ∀ q, va_A wc H.size q → A q := fun q h => by
    rcases h with ⟨k, e, hk⟩ | h
    · exact hDc.2 k _ hk
    · exact hA q (Nat.le_trans hS.1 h)
  exact ⟨k0, k1, k2, k3, k4, k5, by rw [hU]; exact hs.go hS.2.1 hAB hW.alike⟩
theorem metS_of {y : MethodName} {ret : Option FieldType} {rm : Room} {sz : Nat} {av : List Value} {ws : va_W} {i a ab : Nat} (Qf : (Nat → Prop) → Array Value → State → Outcome → State → Prop)
    (hy : plainFor y = true) (hn : (lg_sl av).length ≤ nL)
    (body : ∀ p e s m below meth c A ls, cx p s m av.toArray meth c cc nL ret y.cls D cy A → isS i a ab A s s.heap → va_P D vwCl ws s.heap → va_D A ws → va_S A s.heap s.heap [] → lv_has ls nL (lv_args 0 av) →
      W p l e rm s m av.toArray below meth c s.heap [] 0 0 (MQ below (Qf A) av.toArray s 0 0 A) (F0 m 0 ls [])) :
    Met l y (.code y cc nL ret :: tb) rm (kpS D cy sz av ws i a ab) (Qf (va_A ws sz)) 0 0 (va_A ws sz) := by
  refine MetFree.of_bodySF (code := cc) (maxLocals := nL) (ret := ret) hy (fun args s m h hn => ?_) (fun p e s m args below meth c s₁ B hml hv _ => ?_)
  · obtain ⟨meth, c, h1, h2, h3, h4, h5, h6, -, -⟩ := Cond.code_spec hn (atoms_spec (ws := .code y cc nL ret :: tb) h _ List.mem_cons_self)
    exact ⟨meth, c, h1, h2, h3, h4, h5, h6⟩
  have hh0 : s₁.heap = s.heap := by rw [B.state]; rfl
  suffices K : W p l e (headSpec (.code y cc nL ret :: tb) rm).room s m args below meth c s.heap [] 0 0 (MQ below (Qf (va_A ws sz)) args s 0 0 (va_A ws sz)) (entryFrame m args nL) by
    obtain ⟨t, a1, o, b1, b2, b3⟩ := K s₁ hh0 (Stand.of_body B)
    exact ⟨t, o, a1, b1, b2, ⟨b3.1, b3.2⟩⟩
  obtain ⟨rfl, hsz, hP, hK, hD0, hN, hs⟩ := hv
  have hts := atoms_spec (ws := .code y cc nL ret :: tb) B.pre
  have hown : s.vm.findClass y.cls = some m.cls := findClass_of_methodNamed B.named
  subst hsz
  have hD := hD0.self (sz := s.heap.size)
  have hl := lv_entry av (n := nL) hn
  rw [lg_entry_eq]
  exact body p e s m below meth c _ _ ⟨B.exec, B.bytes, B.returns, hml, hown, fun w h => hts w (List.mem_cons_of_mem _ h), B.notSynchronized, hK, fun q h => Or.inr h, hN⟩ hs hP hD va_S.rf hl
theorem ret_t {w1 : va_W} {v : Int32} {ty : FieldType} (C : cx p s m args meth c cc nL (some ty) own D cy A) (hv : narrow ty (.int v) = .int v) (hP : va_P D vwCl w1 H) (hD : va_D A w1) (hS : va_S A s.heap H locs) (hdg : decode cc pc = .ok (.ireturn, 1)) : W p l e R s m args below meth c H locs 0 0 (MQ below (kqi D cy w1 v A) args s 0 0 A) (F0 m pc ls [.int v]) := by
  obtain ⟨hx, hb, hr, hml, hown, hts, hlk, hK, hA, hN⟩ := C
  exact W.zret (v := v) hx hb hr hv (fun t ht hW => ⟨⟨v, (), rfl, rfl, by rw [ht]; exact hP, va_K.moved hW.alike hK, hD⟩, hS.F ht⟩) hS.2.2 hdg hlk
variable {y : MethodName} {bytes : ByteArray} {maxL n index : Nat} {ret : Option FieldType} {rm : Room} {As rest st0 : List Value} {wc : va_W} {Qc : Array Value → State → Outcome → State → Prop} {free : Addr → Prop} {i a ab : Nat}
/-- a call of a method of a String constant -/
theorem runR {b : Nat} (C : cx p s m args meth c cc nL rt own D cy A) (hs : isS i b ab A s s.heap) (hM : Met l y (.code y bytes maxL ret :: tb) rm (kpS D cy H.size (.ref b :: As) wc i b ab) Qc 0 0 free)
    (h1 : Cond.methodLink own index y ∈ tb) (h2 : Cond.instanceMethod y ∈ tb) (h3 : Cond.selects "java/lang/String" y y ∈ tb) (h4 : Cond.initialized y.cls ∈ tb) (h5 : Cond.code y bytes maxL ret ∈ tb)
    (hd : y.cls ≠ "java/lang/invoke/MethodHandle" ∧ y.cls ≠ "java/lang/invoke/VarHandle" ∧ (parseMethodDescriptor y.desc).map (fun d => d.parameters.length) = some n) (hrc : rm.cells = 0) (hrs : rm.slots = 0) (hR : rm.frames + 1 ≤ R.frames ∧ 8 + (maxL + 11) + rm.locals ≤ R.locals)
    (hPc : va_P D vwCl wc H) (hDc : va_D A wc) (hS : va_S A s.heap H locs) (hn : As.length = n) (hsize : ls.size = nL) (hst : st0 = As.reverse ++ .ref b :: rest) (hcat : (rest.map fun v => v.category).sum ≤ 8) (hdg : decode cc pc = .ok (.invokevirtual index, 3)) :
    va_Run p l e R s m args below meth c H locs 0 0 0 0 (F0 m pc ls st0) rest (Qc (Value.ref b :: As).toArray) free := by
  obtain ⟨hx, hb, hr, hml, hown, hts, hlk, hK, hA, hN⟩ := C
  have hrecv : ∃ cell : Cell, H[b]? = some cell ∧ cell.vm.isStatics = false ∧ s.vm.findClass "java/lang/String" = some cell.cls := by
    obtain ⟨cell, g1, g2, g3, -⟩ := hs.1.kept hS.2.1
    exact ⟨cell, g1, g2, g3⟩
  exact va_runV (As := As) (rest := rest) (Ts := tb) ⟨hx, hb, hml, hown, hts⟩ hM ⟨callB_of n hts (gi h5) rfl hrc hrs (hts _ h4) (hts _ h1) hd hR, hts _ h2, hts _ h3⟩ ⟨kpS_blind, hrecv, kpS_pre (av := .ref b :: As) hPc hK hDc hS hA hN hs⟩ rfl hn hsize hst (lv_room hcat) hdg ⟨Nat.zero_le _, Nat.zero_le _⟩
/-- a call of a method of ours that is given a String constant -/
theorem runVS {Cn : String} {b ci : Nat} {T : u_T} {N : Nat} {fs : List Value} (C : cx p s m args meth c cc nL rt own D cy A) (hs : isS i a ab A s s.heap) (hM : Met l y (.code y bytes maxL ret :: tb) rm (kpS D cy H.size (.ref b :: As) wc i a ab) Qc 0 0 free)
    (h1 : Cond.methodLink own index y ∈ tb) (h2 : Cond.instanceMethod y ∈ tb) (h3 : Cond.selects Cn y y ∈ tb) (h4 : Cond.initialized y.cls ∈ tb) (h5 : Cond.code y bytes maxL ret ∈ tb)
    (hd : y.cls ≠ "java/lang/invoke/MethodHandle" ∧ y.cls ≠ "java/lang/invoke/VarHandle" ∧ (parseMethodDescriptor y.desc).map (fun d => d.parameters.length) = some n) (hrc : rm.cells = 0) (hrs : rm.slots = 0) (hR : rm.frames + 1 ≤ R.frames ∧ 8 + (maxL + 11) + rm.locals ≤ R.locals)
    (hPc : va_P D vwCl wc H) (hDc : va_D A wc) (hS : va_S A s.heap H locs) (hc : vwCl[ci]? = some (Cn, T, N)) (he : wc[0]? = some (b, .inr (ci, fs))) (hn : As.length = n) (hsize : ls.size = nL) (hst : st0 = As.reverse ++ .ref b :: rest) (hcat : (rest.map fun v => v.category).sum ≤ 8) (hdg : decode cc pc = .ok (.invokevirtual index, 3)) :
    va_Run p l e R s m args below meth c H locs 0 0 0 0 (F0 m pc ls st0) rest (Qc (Value.ref b :: As).toArray) free := by
  obtain ⟨hx, hb, hr, hml, hown, hts, hlk, hK, hA, hN⟩ := C
  exact va_runV (As := As) (rest := rest) (Ts := tb) ⟨hx, hb, hml, hown, hts⟩ hM ⟨callB_of n hts (gi h5) rfl hrc hrs (hts _ h4) (hts _ h1) hd hR, hts _ h2, hts _ h3⟩ ⟨kpS_blind, va_recv hK hPc hc he, kpS_pre (av := .ref b :: As) hPc hK hDc hS hA hN hs⟩ rfl hn hsize hst (lv_room hcat) hdg ⟨Nat.zero_le _, Nat.zero_le _⟩
theorem runSS (C : cx p s m args meth c cc nL rt own D cy A) (hs : isS i a ab A s s.heap) (hM : Met l y (.code y bytes maxL ret :: tb) rm (kpS D cy H.size As wc i a ab) Qc 0 0 free)
    (h1 : Cond.methodLink own index y ∈ tb) (h2 : Cond.static y ∈ tb) (h4 : Cond.initialized y.cls ∈ tb) (h5 : Cond.code y bytes maxL ret ∈ tb)
    (hd : y.cls ≠ "java/lang/invoke/MethodHandle" ∧ y.cls ≠ "java/lang/invoke/VarHandle" ∧ (parseMethodDescriptor y.desc).map (fun d => d.parameters.length) = some n) (hrc : rm.cells = 0) (hrs : rm.slots = 0) (hR : rm.frames + 1 ≤ R.frames ∧ 8 + (maxL + 11) + rm.locals ≤ R.locals)
    (hPc : va_P D vwCl wc H) (hDc : va_D A wc) (hS : va_S A s.heap H locs) (hn : As.length = n) (hsize : ls.size = nL) (hst : st0 = As.reverse ++ rest) (hcat : (rest.map fun v => v.category).sum ≤ 8) (hdg : decode cc pc = .ok (.invokestatic index, 3)) :
    va_Run p l e R s m args below meth c H locs 0 0 0 0 (F0 m pc ls st0) rest (Qc As.toArray) free := by
  obtain ⟨hx, hb, hr, hml, hown, hts, hlk, hK, hA, hN⟩ := C
  exact va_runS (As := As) (rest := rest) (Ts := tb) ⟨hx, hb, hml, hown, hts⟩ hM ⟨callB_of n hts (gi h5) rfl hrc hrs (hts _ h4) (hts _ h1) hd hR, hts _ h2⟩ ⟨kpS_blind, kpS_pre (av := As) hPc hK hDc hS hA hN hs⟩ rfl hn hsize hst (lv_room hcat) hdg ⟨Nat.zero_le _, Nat.zero_le _⟩
end
theorem hd_J0_coder : yJ0_coder_7d493.cls ≠ "java/lang/invoke/MethodHandle" ∧ yJ0_coder_7d493.cls ≠ "java/lang/invoke/VarHandle" ∧ (parseMethodDescriptor yJ0_coder_7d493.desc).map (fun d => d.parameters.length) = some 0 := by decide +kernel
theorem hd_J0_isLatin1 : yJ0_isLatin1_aae02.cls ≠ "java/lang/invoke/MethodHandle" ∧ yJ0_isLatin1_aae02.cls ≠ "java/lang/invoke/VarHandle" ∧ (parseMethodDescriptor yJ0_isLatin1_aae02.desc).map (fun d => d.parameters.length) = some 0 := by decide +kernel
theorem hd_J0_length : yJ0_length_8abf5.cls ≠ "java/lang/invoke/MethodHandle" ∧ yJ0_length_8abf5.cls ≠ "java/lang/invoke/VarHandle" ∧ (parseMethodDescriptor yJ0_length_8abf5.desc).map (fun d => d.parameters.length) = some 0 := by decide +kernel
theorem hd_J0_charAt : yJ0_charAt_5068e.cls ≠ "java/lang/invoke/MethodHandle" ∧ yJ0_charAt_5068e.cls ≠ "java/lang/invoke/VarHandle" ∧ (parseMethodDescriptor yJ0_charAt_5068e.desc).map (fun d => d.parameters.length) = some 1 := by decide +kernel
theorem hd_J0_checkIndex : yJ0_checkIndex_df160.cls ≠ "java/lang/invoke/MethodHandle" ∧ yJ0_checkIndex_df160.cls ≠ "java/lang/invoke/VarHandle" ∧ (parseMethodDescriptor yJ0_checkIndex_df160.desc).map (fun d => d.parameters.length) = some 2 := by decide +kernel
theorem hd_J1_charAt : yJ1_charAt_3b067.cls ≠ "java/lang/invoke/MethodHandle" ∧ yJ1_charAt_3b067.cls ≠ "java/lang/invoke/VarHandle" ∧ (parseMethodDescriptor yJ1_charAt_3b067.desc).map (fun d => d.parameters.length) = some 2 := by decide +kernel
theorem hd_J3_checkIndex : yJ3_checkIndex_8e157.cls ≠ "java/lang/invoke/MethodHandle" ∧ yJ3_checkIndex_8e157.cls ≠ "java/lang/invoke/VarHandle" ∧ (parseMethodDescriptor yJ3_checkIndex_8e157.desc).map (fun d => d.parameters.length) = some 3 := by decide +kernel
section
variable (l : Launch) (D : va_G) (cy : Nat → ClassId) (sz : Nat) (i a ab : Nat)
set_option maxRecDepth 100000 in
theorem c_J0_coder : Met l yJ0_coder_7d493 (.code yJ0_coder_7d493 cJ0_coder_7d493 1 (some .byte) :: tb) ({ frames := 0, cells := 0, slots := 0, locals := 0 } : Room) (kpS D cy sz [.ref a] [] i a ab) (kqi D cy [] 0 (va_A [] sz)) 0 0 (va_A [] sz) := by
  refine metS_of (fun A => kqi D cy [] 0 A) (by decide +kernel) (Nat.le_of_ble_eq_true rfl) (fun p e s m below meth c A ls C hs hP hD hS hl => ?_)
  obtain ⟨hx, hb, hr, hml, hown, hts, hlk, hK, hA, hN⟩ := id C
  have hl : lv_has ls 1 [(0, .ref a)] := hl
  refine va_gets hx hb hN.2.1 hS hown (hts _ fl_J0_38) (fun _ h => h) dJ0_coder_7d493_0 ?_
  refine lv_if_eq (tgt := 13) hx hb dJ0_coder_7d493_3 (by decide) (fun h => absurd h (by decide)) (fun _ => ?_)
  refine lv_aload_n hx hb dJ0_coder_7d493_6 rfl (lv_at hl 0 rfl) ?_
  refine vk_getf hx hb hs.2.1 hS hown (hts _ fl_J0_15) (fun _ h => h) dJ0_coder_7d493_7 ?_
  refine lv_goto (tgt := 14) hx hb dJ0_coder_7d493_10 (by decide) ?_
  exact ret_t C rfl hP hD hS dJ0_coder_7d493_14
set_option maxRecDepth 100000 in
theorem c_J0_isLatin1 : Met l yJ0_isLatin1_aae02 (.code yJ0_isLatin1_aae02 cJ0_isLatin1_aae02 1 (some .boolean) :: tb) ({ frames := 0, cells := 0, slots := 0, locals := 0 } : Room) (kpS D cy sz [.ref a] [] i a ab) (kqi D cy [] 1 (va_A [] sz)) 0 0 (va_A [] sz) := by
  refine metS_of (fun A => kqi D cy [] 1 A) (by decide +kernel) (Nat.le_of_ble_eq_true rfl) (fun p e s m below meth c A ls C hs hP hD hS hl => ?_)
  obtain ⟨hx, hb, hr, hml, hown, hts, hlk, hK, hA, hN⟩ := id C
  have hl : lv_has ls 1 [(0, .ref a)] := hl
  refine va_gets hx hb hN.2.1 hS hown (hts _ fl_J0_38) (fun _ h => h) dJ0_isLatin1_aae02_0 ?_
  refine lv_if_eq (tgt := 17) hx hb dJ0_isLatin1_aae02_3 (by decide) (fun h => absurd h (by decide)) (fun _ => ?_)
  refine lv_aload_n hx hb dJ0_isLatin1_aae02_6 rfl (lv_at hl 0 rfl) ?_
  refine vk_getf hx hb hs.2.1 hS hown (hts _ fl_J0_15) (fun _ h => h) dJ0_isLatin1_aae02_7 ?_
  refine lv_if_ne (tgt := 17) hx hb dJ0_isLatin1_aae02_10 (by decide) (fun h => absurd rfl h) (fun _ => ?_)
  refine lv_iconst (v := 1) hx hb dJ0_isLatin1_aae02_13 (by decide) ?_
  refine lv_goto (tgt := 18) hx hb dJ0_isLatin1_aae02_14 (by decide) ?_
  exact ret_t C rfl hP hD hS dJ0_isLatin1_aae02_18
set_option maxRecDepth 100000 in
theorem c_J0_length : Met l yJ0_length_8abf5 (.code yJ0_length_8abf5 cJ0_length_8abf5 1 (some .int) :: tb) ({ frames := 1, cells := 0, slots := 0, locals := 20 } : Room) (kpS D cy sz [.ref a] [] i a ab) (kqi D cy [] (Int32.ofNat (slen.getD i 0)) (va_A [] sz)) 0 0 (va_A [] sz) := by
  refine metS_of (fun A => kqi D cy [] (Int32.ofNat (slen.getD i 0)) A) (by decide +kernel) (Nat.le_of_ble_eq_true rfl) (fun p e s m below meth c A ls C hs hP hD hS hl => ?_)
  obtain ⟨hx, hb, hr, hml, hown, hts, hlk, hK, hA, hN⟩ := id C
  have hl : lv_has ls 1 [(0, .ref a)] := hl
  obtain ⟨g1, g2, g3, g4⟩ := id hs
  refine lv_aload_n hx hb dJ0_length_8abf5_0 rfl (lv_at hl 0 rfl) ?_
  refine vk_getf hx hb g3 hS hown (hts _ fl_J0_9) (fun _ h => h) dJ0_length_8abf5_1 ?_
  refine va_tlen hx hb g4 hS rfl dJ0_length_8abf5_4 ?_
  refine lv_aload_n hx hb dJ0_length_8abf5_5 rfl (lv_at hl 0 rfl) ?_
  refine goI (wr := []) (ws' := []) C (runR (n := 0) (As := []) (rest := [.int (Int32.ofNat (slen.getD i 0))]) C hs (c_J0_coder l D cy _ i a ab) ml_J0_335 im_J0_coder_7d493 se_J0_coder_7d493 ii_J0 cd_J0_coder_7d493 hd_J0_coder rfl rfl ⟨Nat.le_of_ble_eq_true rfl, Nat.le_of_ble_eq_true rfl⟩ hP hD hS rfl hl.1 rfl (Nat.le_of_ble_eq_true rfl) dJ0_length_8abf5_6) hP hD hS [] [] [] rfl rfl (by decide) (by decide) rfl (by decide) (fun H locs hP hD hS => ?_)
  refine lv_ishr hx hb dJ0_length_8abf5_9 ?_
  rw [sb_shr0]
  exact ret_i C hP hD hS dJ0_length_8abf5_10
set_option maxRecDepth 100000 in
theorem c_J3_checkIndex (v0 v1 : Int32) (r : Option Nat) (h0 : ¬ v0 < 0) (h1 : v0 < v1) : Met l yJ3_checkIndex_8e157 (.code yJ3_checkIndex_8e157 cJ3_checkIndex_8e157 3 (some .int) :: tb) ({ frames := 0, cells := 0, slots := 0, locals := 0 } : Room) (kpS D cy sz [.int v0, .int v1, va_rf r] [] i a ab) (kqi D cy [] v0 (va_A [] sz)) 0 0 (va_A [] sz) := by
  refine metS_of (fun A => kqi D cy [] v0 A) (by decide +kernel) (by cases r <;> exact Nat.le_of_ble_eq_true rfl) (fun p e s m below meth c A ls C hs hP hD hS hl => ?_)
  obtain ⟨hx, hb, hr, hml, hown, hts, hlk, hK, hA, hN⟩ := id C
  have hl : lv_has ls 3 [(0, .int v0), (1, .int v1), (2, va_rf r)] := hl
  refine lv_iload_n hx hb dJ3_checkIndex_8e157_0 rfl (lv_at hl 0 rfl) ?_
  refine lv_if_lt (tgt := 9) hx hb dJ3_checkIndex_8e157_1 (by decide) (fun h => absurd h h0) (fun _ => ?_)
  refine lv_iload_n hx hb dJ3_checkIndex_8e157_4 rfl (lv_at hl 0 rfl) ?_
  refine lv_iload_n hx hb dJ3_checkIndex_8e157_5 rfl (lv_at hl 1 rfl) ?_
  refine lv_icmp_lt (tgt := 16) hx hb dJ3_checkIndex_8e157_6 (by decide) (fun _ => ?_) (fun h => absurd h1 h)
  refine lv_iload_n hx hb dJ3_checkIndex_8e157_16 rfl (lv_at hl 0 rfl) ?_
  exact ret_i C hP hD hS dJ3_checkIndex_8e157_17
set_option maxRecDepth 100000 in
theorem c_J0_checkIndex (v0 v1 : Int32) (h0 : ¬ v0 < 0) (h1 : v0 < v1) : Met l yJ0_checkIndex_df160 (.code yJ0_checkIndex_df160 cJ0_checkIndex_df160 2 none :: tb) ({ frames := 1, cells := 0, slots := 0, locals := 22 } : Room) (kpS D cy sz [.int v0, .int v1] [] i a ab) (kqv D cy [] (va_A [] sz)) 0 0 (va_A [] sz) := by
  refine metS_of (fun A => kqv D cy [] A) (by decide +kernel) (Nat.le_of_ble_eq_true rfl) (fun p e s m below meth c A ls C hs hP hD hS hl => ?_)
  obtain ⟨hx, hb, hr, hml, hown, hts, hlk, hK, hA, hN⟩ := id C
  have hl : lv_has ls 2 [(0, .int v0), (1, .int v1)] := hl
  refine lv_iload_n hx hb dJ0_checkIndex_df160_0 rfl (lv_at hl 0 rfl) ?_
  refine lv_iload_n hx hb dJ0_checkIndex_df160_1 rfl (lv_at hl 1 rfl) ?_
  obtain ⟨r, hz⟩ : ∃ r : Option Nat, va_Z "jdk/internal/util/Preconditions" "SIOOBE_FORMATTER" "Ljava/util/function/BiFunction;" (va_rf r) A s s.heap := by
    rcases hN.2.2.1 with h | ⟨t, h⟩
    · exact ⟨none, h⟩
    · exact ⟨some t, h⟩
  refine va_gets hx hb hz hS hown (hts _ fl_J0_1053) (fun _ h => h) dJ0_checkIndex_df160_2 ?_
  refine goI (wr := []) (ws' := []) C (runSS (n := 3) (As := [.int v0, .int v1, va_rf r]) (rest := []) C hs (c_J3_checkIndex l D cy _ i a ab v0 v1 r h0 h1) ml_J0_1059 st_J3_checkIndex_8e157 ii_J3 cd_J3_checkIndex_8e157 hd_J3_checkIndex rfl rfl ⟨Nat.le_of_ble_eq_true rfl, Nat.le_of_ble_eq_true rfl⟩ hP hD hS rfl hl.1 rfl (Nat.le_of_ble_eq_true rfl) dJ0_checkIndex_df160_5) hP hD hS [] [] [] rfl rfl (by decide) (by decide) rfl (by decide) (fun H locs hP hD hS => ?_)
  refine lv_pop hx hb dJ0_checkIndex_df160_8 rfl ?_
  exact ret_v C hP hD hS dJ0_checkIndex_df160_9
end
/-- the char of a String constant -/
def schar (i : Nat) (j : Int32) : Int32 := (((sbyt.getD i []).getD j.toNatClampNeg 0 &&& (255 : Int32)).toUInt32 % 65536).toInt32
theorem slen_lt (i : Nat) : slen.getD i 0 < 2 ^ 31 := by
  rcases Nat.lt_or_ge i 8 with h | h
  · rcases (show i = 0 ∨ i = 1 ∨ i = 2 ∨ i = 3 ∨ i = 4 ∨ i = 5 ∨ i = 6 ∨ i = 7 by omega) with rfl | rfl | rfl | rfl | rfl | rfl | rfl | rfl <;> decide
  · have e : slen[i]? = none := List.getElem?_eq_none h
    simp [List.getD, e]
section
variable (l : Launch) (D : va_G) (cy : Nat → ClassId) (sz : Nat) (i a ab : Nat)
set_option maxRecDepth 100000 in
theorem c_J1_charAt (v1 : Int32) (hin : vp_in v1 (slen.getD i 0)) : Met l yJ1_charAt_3b067 (.code yJ1_charAt_3b067 cJ1_charAt_3b067 2 (some .char) :: tb) ({ frames := 2, cells := 0, slots := 0, locals := 43 } : Room) (kpS D cy sz [.ref ab, .int v1] [] i a ab) (kqi D cy [] (schar i v1) (va_A [] sz)) 0 0 (va_A [] sz) := by
  refine metS_of (fun A => kqi D cy [] (schar i v1) A) (by decide +kernel) (Nat.le_of_ble_eq_true rfl) (fun p e s m below meth c A ls C hs hP hD hS hl => ?_)
  obtain ⟨hx, hb, hr, hml, hown, hts, hlk, hK, hA, hN⟩ := id C
  have hl : lv_has ls 2 [(0, .ref ab), (1, .int v1)] := hl
  obtain ⟨g1, g2, g3, g4⟩ := id hs
  obtain ⟨j, hj, hv⟩ := vp_in_of hin (slen_lt i)
  have k0 : ¬ v1 < 0 := fun h => hin (Or.inl h)
  have k1 : v1 < Int32.ofNat (slen.getD i 0) := by rw [hv]; exact nI_lt hj (slen_lt i)
  refine lv_iload_n hx hb dJ1_charAt_3b067_0 rfl (lv_at hl 1 rfl) ?_
  refine lv_aload_n hx hb dJ1_charAt_3b067_1 rfl (lv_at hl 0 rfl) ?_
  refine va_tlen hx hb g4 hS rfl dJ1_charAt_3b067_2 ?_
  refine goV (wr := []) (ws' := []) C (runSS (n := 2) (As := [.int v1, .int (Int32.ofNat (slen.getD i 0))]) (rest := []) C hs (c_J0_checkIndex l D cy _ i a ab v1 (Int32.ofNat (slen.getD i 0)) k0 k1) ml_J1_9 st_J0_checkIndex_df160 ii_J0 cd_J0_checkIndex_df160 hd_J0_checkIndex rfl rfl ⟨Nat.le_of_ble_eq_true rfl, Nat.le_of_ble_eq_true rfl⟩ hP hD hS rfl hl.1 rfl (Nat.le_of_ble_eq_true rfl) dJ1_charAt_3b067_3) hP hD hS [] [] [] rfl rfl (by decide) (by decide) rfl (by decide) (fun H locs hP hD hS => ?_)
  refine lv_aload_n hx hb dJ1_charAt_3b067_6 rfl (lv_at hl 0 rfl) ?_
  refine lv_iload_n hx hb dJ1_charAt_3b067_7 rfl (lv_at hl 1 rfl) ?_
  refine va_tb hx hb g4 hS hin rfl dJ1_charAt_3b067_8 ?_
  refine lv_sipush (v := 255) hx hb dJ1_charAt_3b067_9 (by decide) ?_
  refine lv_iand hx hb dJ1_charAt_3b067_12 ?_
  refine lv_i2c hx hb dJ1_charAt_3b067_13 rfl ?_
  exact ret_t (v := schar i v1) C (pk_nc _) hP hD hS dJ1_charAt_3b067_14
set_option maxRecDepth 100000 in
theorem c_J0_charAt (v1 : Int32) (hin : vp_in v1 (slen.getD i 0)) : Met l yJ0_charAt_5068e (.code yJ0_charAt_5068e cJ0_charAt_5068e 2 (some .char) :: tb) ({ frames := 3, cells := 0, slots := 0, locals := 64 } : Room) (kpS D cy sz [.ref a, .int v1] [] i a ab) (kqi D cy [] (schar i v1) (va_A [] sz)) 0 0 (va_A [] sz) := by
  refine metS_of (fun A => kqi D cy [] (schar i v1) A) (by decide +kernel) (Nat.le_of_ble_eq_true rfl) (fun p e s m below meth c A ls C hs hP hD hS hl => ?_)
  obtain ⟨hx, hb, hr, hml, hown, hts, hlk, hK, hA, hN⟩ := id C
  have hl : lv_has ls 2 [(0, .ref a), (1, .int v1)] := hl
  obtain ⟨g1, g2, g3, g4⟩ := id hs
  refine lv_aload_n hx hb dJ0_charAt_5068e_0 rfl (lv_at hl 0 rfl) ?_
  refine goI (wr := []) (ws' := []) C (runR (n := 0) (As := []) (rest := []) C hs (c_J0_isLatin1 l D cy _ i a ab) ml_J0_492 im_J0_isLatin1_aae02 se_J0_isLatin1_aae02 ii_J0 cd_J0_isLatin1_aae02 hd_J0_isLatin1 rfl rfl ⟨Nat.le_of_ble_eq_true rfl, Nat.le_of_ble_eq_true rfl⟩ hP hD hS rfl hl.1 rfl (Nat.le_of_ble_eq_true rfl) dJ0_charAt_5068e_1) hP hD hS [] [] [] rfl rfl (by decide) (by decide) rfl (by decide) (fun H locs hP hD hS => ?_)
  refine lv_if_eq (tgt := 16) hx hb dJ0_charAt_5068e_4 (by decide) (fun h => absurd h (by decide)) (fun _ => ?_)
  refine lv_aload_n hx hb dJ0_charAt_5068e_7 rfl (lv_at hl 0 rfl) ?_
  refine vk_getf hx hb g3 hS hown (hts _ fl_J0_9) (fun _ h => h) dJ0_charAt_5068e_8 ?_
  refine lv_iload_n hx hb dJ0_charAt_5068e_11 rfl (lv_at hl 1 rfl) ?_
  refine goI (wr := []) (ws' := []) C (runSS (n := 2) (As := [.ref ab, .int v1]) (rest := []) C hs (c_J1_charAt l D cy _ i a ab v1 hin) ml_J0_495 st_J1_charAt_3b067 ii_J1 cd_J1_charAt_3b067 hd_J1_charAt rfl rfl ⟨Nat.le_of_ble_eq_true rfl, Nat.le_of_ble_eq_true rfl⟩ hP hD hS rfl hl.1 rfl (Nat.le_of_ble_eq_true rfl) dJ0_charAt_5068e_12) hP hD hS [] [] [] rfl rfl (by decide) (by decide) rfl (by decide) (fun H locs hP hD hS => ?_)
  exact ret_t (v := schar i v1) C (pk_nc _) hP hD hS dJ0_charAt_5068e_15
end
def zz {β : Type} (v : Int32) (k : Option β) : Option β := if v = 0 ∨ v = 1 then k else none
theorem zz_of {β : Type} {v : Int32} {k : Option β} {z : β} (h : zz v k = some z) : narrow .boolean (.int v) = .int v ∧ fits .boolean (.int v) = true ∧ k = some z := by
  unfold zz at h
  split at h
  · next hc => rcases hc with rfl | rfl <;> exact ⟨rfl, rfl, h⟩
  · cases h
