/-! what constructors need -/
abbrev kqn (D : va_G) (cy : Nat → ClassId) (wf : (Nat → Nat) → va_W) (A : Nat → Prop) := va_Qv (fun (_ : Nat → Nat) => True) (fun (u : Nat → Nat) t => va_P D vwCl (wf u) t.heap ∧ va_K D vwCl (wtys cy) t ∧ va_D A (wf u)) A
section
variable {p : Program} {l : Launch} {e : Env} {R : Room} {s : State} {m : MethodId} {args : Array Value} {below : List Frame} {meth : Method} {c : Code} {H : Heap} {locs : List Loc} {Q : State → Prop} {D : va_G} {cy : Nat → ClassId} {A : Nat → Prop} {ls : Array Slot} {cc : ByteArray} {nL pc cells slots : Nat} {rt : Option FieldType} {own : String} {rest : List Value} {ws : va_W}
theorem newI (C : cx p s m args meth c cc nL rt own D cy A) (hP : va_P D vwCl ws H) (hD : va_D A ws) (hS : va_S A s.heap H locs) {n : Int32} {N' : Nat} (hn : ¬ n < 0) (hN : n.toNatClampNeg = N') (hbytes : N' * 4 ≤ 536870912) (hcells : cells + 1 ≤ R.cells) (hslots : slots + N' ≤ R.slots) (hdg : decode cc pc = .ok (.newarray .int, 2))
    (kk : ∀ (q : Nat) (H1 : Heap), va_P D vwCl (ws ++ [(q, aI cy N' (fun _ => 0))]) H1 → va_D A (ws ++ [(q, aI cy N' (fun _ => 0))]) → va_S A s.heap H1 locs → W p l e R s m args below meth c H1 locs (cells + 1) (slots + N') Q (F0 m (pc + 2) ls (.ref q :: rest))) : W p l e R s m args below meth c H locs cells slots Q (F0 m pc ls (.int n :: rest)) := by
  obtain ⟨hx, hb, hr, hml, hown, hts, hlk, hK, hA, hN0⟩ := C
  refine va_newa (atype := .int) hx hb (hts _ ac_int) rfl hK hP hD hS hA (a0 := (N', .inl (fun _ => 0))) (fun cA => rfl) hn hN hbytes hcells hslots hdg (fun q cA H1 hK1 hP1 hD1 hS1 => ?_)
  have e : cA = cy 1 := Option.some.inj ((hK1.2 5 (cA, .int) rfl).2.symm.trans (hK.2 1 (cy 1, .int) rfl).2)
  subst e
  exact kk q H1 hP1 hD1 hS1
theorem newB (C : cx p s m args meth c cc nL rt own D cy A) (hP : va_P D vwCl ws H) (hD : va_D A ws) (hS : va_S A s.heap H locs) {n : Int32} {N' : Nat} (hn : ¬ n < 0) (hN : n.toNatClampNeg = N') (hbytes : N' * 1 ≤ 536870912) (hcells : cells + 1 ≤ R.cells) (hslots : slots + N' ≤ R.slots) (hdg : decode cc pc = .ok (.newarray .byte, 2))
    (kk : ∀ (q : Nat) (H1 : Heap), va_P D vwCl (ws ++ [(q, aB cy N' (fun _ => 0))]) H1 → va_D A (ws ++ [(q, aB cy N' (fun _ => 0))]) → va_S A s.heap H1 locs → W p l e R s m args below meth c H1 locs (cells + 1) (slots + N') Q (F0 m (pc + 2) ls (.ref q :: rest))) : W p l e R s m args below meth c H locs cells slots Q (F0 m pc ls (.int n :: rest)) := by
  obtain ⟨hx, hb, hr, hml, hown, hts, hlk, hK, hA, hN0⟩ := C
  refine va_newa (atype := .byte) hx hb (hts _ ac_byte) rfl hK hP hD hS hA (a0 := (N', .inl (fun _ => 0))) (fun cA => rfl) hn hN hbytes hcells hslots hdg (fun q cA H1 hK1 hP1 hD1 hS1 => ?_)
  have e : cA = cy 0 := Option.some.inj ((hK1.2 5 (cA, .byte) rfl).2.symm.trans (hK.2 0 (cy 0, .byte) rfl).2)
  subst e
  exact kk q H1 hP1 hD1 hS1
theorem newZ (C : cx p s m args meth c cc nL rt own D cy A) (hP : va_P D vwCl ws H) (hD : va_D A ws) (hS : va_S A s.heap H locs) {n : Int32} {N' : Nat} (hn : ¬ n < 0) (hN : n.toNatClampNeg = N') (hbytes : N' * 1 ≤ 536870912) (hcells : cells + 1 ≤ R.cells) (hslots : slots + N' ≤ R.slots) (hdg : decode cc pc = .ok (.newarray .boolean, 2))
    (kk : ∀ (q : Nat) (H1 : Heap), va_P D vwCl (ws ++ [(q, aZ cy N' (fun _ => 0))]) H1 → va_D A (ws ++ [(q, aZ cy N' (fun _ => 0))]) → va_S A s.heap H1 locs → W p l e R s m args below meth c H1 locs (cells + 1) (slots + N') Q (F0 m (pc + 2) ls (.ref q :: rest))) : W p l e R s m args below meth c H locs cells slots Q (F0 m pc ls (.int n :: rest)) := by
  obtain ⟨hx, hb, hr, hml, hown, hts, hlk, hK, hA, hN0⟩ := C
  refine va_newa (atype := .boolean) hx hb (hts _ ac_boolean) rfl hK hP hD hS hA (a0 := (N', .inl (fun _ => 0))) (fun cA => rfl) hn hN hbytes hcells hslots hdg (fun q cA H1 hK1 hP1 hD1 hS1 => ?_)
  have e : cA = cy 3 := Option.some.inj ((hK1.2 5 (cA, .boolean) rfl).2.symm.trans (hK.2 3 (cy 3, .boolean) rfl).2)
  subst e
  exact kk q H1 hP1 hD1 hS1
theorem newJ (C : cx p s m args meth c cc nL rt own D cy A) (hP : va_P D vwCl ws H) (hD : va_D A ws) (hS : va_S A s.heap H locs) {n : Int32} {N' : Nat} (hn : ¬ n < 0) (hN : n.toNatClampNeg = N') (hbytes : N' * 8 ≤ 536870912) (hcells : cells + 1 ≤ R.cells) (hslots : slots + N' ≤ R.slots) (hdg : decode cc pc = .ok (.newarray .long, 2))
    (kk : ∀ (q : Nat) (H1 : Heap), va_P D vwCl (ws ++ [(q, aJ cy N' (fun _ => 0))]) H1 → va_D A (ws ++ [(q, aJ cy N' (fun _ => 0))]) → va_S A s.heap H1 locs → W p l e R s m args below meth c H1 locs (cells + 1) (slots + N') Q (F0 m (pc + 2) ls (.ref q :: rest))) : W p l e R s m args below meth c H locs cells slots Q (F0 m pc ls (.int n :: rest)) := by
  obtain ⟨hx, hb, hr, hml, hown, hts, hlk, hK, hA, hN0⟩ := C
  refine va_newa (atype := .long) hx hb (hts _ ac_long) rfl hK hP hD hS hA (a0 := (N', .inr (.inl (fun _ => 0)))) (fun cA => rfl) hn hN hbytes hcells hslots hdg (fun q cA H1 hK1 hP1 hD1 hS1 => ?_)
  have e : cA = cy 2 := Option.some.inj ((hK1.2 5 (cA, .long) rfl).2.symm.trans (hK.2 2 (cy 2, .long) rfl).2)
  subst e
  exact kk q H1 hP1 hD1 hS1
theorem newR {index : Nat} (C : cx p s m args meth c cc nL rt own D cy A) (ho : va_AO RX6 s) (hcl : Cond.classLink own index RX6 ∈ tb) (hP : va_P D vwCl ws H) (hD : va_D A ws) (hS : va_S A s.heap H locs) {n : Int32} {N' : Nat} (hn : ¬ n < 0) (hN : n.toNatClampNeg = N') (hbytes : N' * 4 ≤ 536870912) (hcells : cells + 1 ≤ R.cells) (hslots : slots + N' ≤ R.slots) (hdg : decode cc pc = .ok (.anewarray index, 3))
    (kk : ∀ (q : Nat) (H1 : Heap), va_P D vwCl (ws ++ [(q, aR cy N' (fun _ => none))]) H1 → va_D A (ws ++ [(q, aR cy N' (fun _ => none))]) → va_S A s.heap H1 locs → W p l e R s m args below meth c H1 locs (cells + 1) (slots + N') Q (F0 m (pc + 3) ls (.ref q :: rest))) : W p l e R s m args below meth c H locs cells slots Q (F0 m pc ls (.int n :: rest)) := by
  obtain ⟨hx, hb, hr, hml, hown, hts, hlk, hK, hA, hN0⟩ := C
  refine va_newq hx hb hown (hts _ hcl) ho hK hP hD hS hA hn hN hbytes hcells hslots hdg (fun q cA H1 hK1 hP1 hD1 hS1 => ?_)
  obtain ⟨-, kA, comp, -, -, -, h1⟩ := hK1.2 5 (cA, .object RX6) rfl
  obtain ⟨-, kB, comp2, -, -, -, h2⟩ := hK.2 4 (cy 4, .object RX6) rfl
  have e : cA = cy 4 := Option.some.inj (h1.symm.trans h2)
  subst e
  exact kk q H1 hP1 hD1 hS1
theorem met_ofN {y : MethodName} {ret : Option FieldType} {rm : Room} {sz mc ms : Nat} {av : List Value} {Px : State → Prop} (Qf : (Nat → Prop) → Array Value → State → Outcome → State → Prop)
    (hy : plainFor y = true) (hn : (lg_sl av).length ≤ nL)
    (body : ∀ p e s m below meth c A ls, cx p s m av.toArray meth c cc nL ret y.cls D cy A → meth.name = y.name → Px s → va_P D vwCl ws s.heap → va_D A ws → va_S A s.heap s.heap [] → lv_has ls nL (lv_args 0 av) →
      W p l e rm s m av.toArray below meth c s.heap [] 0 0 (MQ below (Qf A) av.toArray s mc ms A) (F0 m 0 ls [])) :
    Met l y (.code y cc nL ret :: tb) rm (fun v U => kp D cy sz av ws v U ∧ Px U) (Qf (va_A ws sz)) mc ms (va_A ws sz) := by
  refine MetFree.of_bodySF (code := cc) (maxLocals := nL) (ret := ret) hy (fun args s m h hn => ?_) (fun p e s m args below meth c s₁ B hml hv _ => ?_)
  · obtain ⟨meth, c, h1, h2, h3, h4, h5, h6, -, -⟩ := Cond.code_spec hn (atoms_spec (ws := .code y cc nL ret :: tb) h _ List.mem_cons_self)
    exact ⟨meth, c, h1, h2, h3, h4, h5, h6⟩
  have hh0 : s₁.heap = s.heap := by rw [B.state]; rfl
  suffices K : W p l e (headSpec (.code y cc nL ret :: tb) rm).room s m args below meth c s.heap [] 0 0 (MQ below (Qf (va_A ws sz)) args s mc ms (va_A ws sz)) (entryFrame m args nL) by
    obtain ⟨t, a1, o, b1, b2, b3⟩ := K s₁ hh0 (Stand.of_body B)
    exact ⟨t, o, a1, b1, b2, ⟨b3.1, b3.2⟩⟩
  obtain ⟨⟨rfl, hsz, hP, hK, hD0, hN⟩, hPx⟩ := hv
  have hts := atoms_spec (ws := .code y cc nL ret :: tb) B.pre
  have hown : s.vm.findClass y.cls = some m.cls := findClass_of_methodNamed B.named
  have hin : meth.name = y.name := (name_of_methodNamed B.named B.method).1
  subst hsz
  have hD := hD0.self (sz := s.heap.size)
  have hl := lv_entry av (n := nL) hn
  rw [lg_entry_eq]
  exact body p e s m below meth c _ _ ⟨B.exec, B.bytes, B.returns, hml, hown, fun w h => hts w (List.mem_cons_of_mem _ h), B.notSynchronized, hK, fun q h => Or.inr h, hN⟩ hin hPx hP hD va_S.rf hl
-- calls of methods that make nothing, from where something has been made
variable {y : MethodName} {bytes : ByteArray} {maxL n index : Nat} {ret : Option FieldType} {rm : Room} {As st0 : List Value} {wc : va_W} {Qc : Array Value → State → Outcome → State → Prop} {free : Addr → Prop}
theorem runVc {Cn : String} {b ci : Nat} {T : u_T} {N : Nat} {fs : List Value} (C : cx p s m args meth c cc nL rt own D cy A) (hM : Met l y (.code y bytes maxL ret :: tb) rm (kp D cy H.size (.ref b :: As) wc) Qc 0 0 free)
    (h1 : Cond.methodLink own index y ∈ tb) (h2 : Cond.instanceMethod y ∈ tb) (h3 : Cond.selects Cn y y ∈ tb) (h4 : Cond.initialized y.cls ∈ tb) (h5 : Cond.code y bytes maxL ret ∈ tb)
    (hd : y.cls ≠ "java/lang/invoke/MethodHandle" ∧ y.cls ≠ "java/lang/invoke/VarHandle" ∧ (parseMethodDescriptor y.desc).map (fun d => d.parameters.length) = some n) (hrc : rm.cells = 0) (hrs : rm.slots = 0) (hR : rm.frames + 1 ≤ R.frames ∧ 8 + (maxL + 11) + rm.locals ≤ R.locals)
    (hPc : va_P D vwCl wc H) (hDc : va_D A wc) (hS : va_S A s.heap H locs) (hc : vwCl[ci]? = some (Cn, T, N)) (he : wc[0]? = some (b, .inr (ci, fs))) (hn : As.length = n) (hsize : ls.size = nL) (hst : st0 = As.reverse ++ .ref b :: rest) (hcat : (rest.map fun v => v.category).sum ≤ 8) (hdg : decode cc pc = .ok (.invokevirtual index, 3)) (hf : cells ≤ R.cells ∧ slots ≤ R.slots) :
    va_Run p l e R s m args below meth c H locs cells slots 0 0 (F0 m pc ls st0) rest (Qc (Value.ref b :: As).toArray) free := by
  obtain ⟨hx, hb, hr, hml, hown, hts, hlk, hK, hA, hN⟩ := C
  exact va_runV (As := As) (rest := rest) (Ts := tb) ⟨hx, hb, hml, hown, hts⟩ hM ⟨callB_of n hts (gi h5) rfl hrc hrs (hts _ h4) (hts _ h1) hd hR, hts _ h2, hts _ h3⟩ ⟨kp_blind, va_recv hK hPc hc he, kp_pre (av := .ref b :: As) hPc hK hDc hS hA hN⟩ rfl hn hsize hst (lv_room hcat) hdg hf
theorem runSc (C : cx p s m args meth c cc nL rt own D cy A) (hM : Met l y (.code y bytes maxL ret :: tb) rm (kp D cy H.size As wc) Qc 0 0 free)
    (h1 : Cond.methodLink own index y ∈ tb) (h2 : Cond.static y ∈ tb) (h4 : Cond.initialized y.cls ∈ tb) (h5 : Cond.code y bytes maxL ret ∈ tb)
    (hd : y.cls ≠ "java/lang/invoke/MethodHandle" ∧ y.cls ≠ "java/lang/invoke/VarHandle" ∧ (parseMethodDescriptor y.desc).map (fun d => d.parameters.length) = some n) (hrc : rm.cells = 0) (hrs : rm.slots = 0) (hR : rm.frames + 1 ≤ R.frames ∧ 8 + (maxL + 11) + rm.locals ≤ R.locals)
    (hPc : va_P D vwCl wc H) (hDc : va_D A wc) (hS : va_S A s.heap H locs) (hn : As.length = n) (hsize : ls.size = nL) (hst : st0 = As.reverse ++ rest) (hcat : (rest.map fun v => v.category).sum ≤ 8) (hdg : decode cc pc = .ok (.invokestatic index, 3)) (hf : cells ≤ R.cells ∧ slots ≤ R.slots) :
    va_Run p l e R s m args below meth c H locs cells slots 0 0 (F0 m pc ls st0) rest (Qc As.toArray) free := by
  obtain ⟨hx, hb, hr, hml, hown, hts, hlk, hK, hA, hN⟩ := C
  exact va_runS (As := As) (rest := rest) (Ts := tb) ⟨hx, hb, hml, hown, hts⟩ hM ⟨callB_of n hts (gi h5) rfl hrc hrs (hts _ h4) (hts _ h1) hd hR, hts _ h2⟩ ⟨kp_blind, kp_pre (av := As) hPc hK hDc hS hA hN⟩ rfl hn hsize hst (lv_room hcat) hdg hf
/-- calls of constructors -/
theorem blindP {D : va_G} {cy : Nat → ClassId} {sz : Nat} {av : List Value} {ws : va_W} : FrameBlind (fun v U => kp D cy sz av ws v U ∧ True) := fun a U g mk q => ⟨kp_blind a U g mk q.1, trivial⟩
theorem runI {b mc ms : Nat} (C : cx p s m args meth c cc nL rt own D cy A) (hM : Met l y (.code y bytes maxL none :: tb) rm (fun v U => kp D cy H.size (.ref b :: As) wc v U ∧ True) Qc mc ms free)
    (h1 : Cond.methodLink own index y ∈ tb) (h2 : Cond.instanceMethod y ∈ tb) (h4 : Cond.initialized y.cls ∈ tb) (h5 : Cond.code y bytes maxL none ∈ tb) (hi : y.name = "<init>")
    (hd : y.cls ≠ "java/lang/invoke/MethodHandle" ∧ y.cls ≠ "java/lang/invoke/VarHandle" ∧ (parseMethodDescriptor y.desc).map (fun d => d.parameters.length) = some n) (hrc : rm.cells = mc) (hrs : rm.slots = ms) (hR : rm.frames + 1 ≤ R.frames ∧ 8 + (maxL + 11) + rm.locals ≤ R.locals)
    (hPc : va_P D vwCl wc H) (hDc : va_D A wc) (hS : va_S A s.heap H locs) (hn : As.length = n) (hsize : ls.size = nL) (hst : st0 = As.reverse ++ .ref b :: rest) (hcat : (rest.map fun v => v.category).sum ≤ 8) (hdg : decode cc pc = .ok (.invokespecial index, 3)) (hf : cells + mc ≤ R.cells ∧ slots + ms ≤ R.slots) :
    va_Run p l e R s m args below meth c H locs cells slots mc ms (F0 m pc ls st0) rest (Qc (Value.ref b :: As).toArray) free := by
  obtain ⟨hx, hb, hr, hml, hown, hts, hlk, hK, hA, hN⟩ := C
  exact va_runI (As := As) (rest := rest) (Ts := tb) ⟨hx, hb, hml, hown, hts⟩ hM (cwI n hts (gi h5) rfl hrc hrs (hts _ h4) (hts _ h1) (hts _ h2) hi hd hR) ⟨blindP, fun U hU hW => ⟨kp_pre (av := .ref b :: As) hPc hK hDc hS hA hN U hU hW, trivial⟩⟩ rfl hn hsize hst (lv_room hcat) hdg hf
theorem runIN {host : String} {b mc ms : Nat} (C : cx p s m args meth c cc nL rt own D cy A) (hM : Met l y (.code y bytes maxL none :: tb) rm (fun v U => kp D cy H.size (.ref b :: As) wc v U ∧ True) Qc mc ms free)
    (h1 : (own, index, y, host) ∈ nlist) (h2 : Cond.instanceMethod y ∈ tb) (h4 : Cond.initialized y.cls ∈ tb) (h5 : Cond.code y bytes maxL none ∈ tb) (hi : y.name = "<init>")
    (hd : y.cls ≠ "java/lang/invoke/MethodHandle" ∧ y.cls ≠ "java/lang/invoke/VarHandle" ∧ (parseMethodDescriptor y.desc).map (fun d => d.parameters.length) = some n) (hrc : rm.cells = mc) (hrs : rm.slots = ms) (hR : rm.frames + 1 ≤ R.frames ∧ 8 + (maxL + 11) + rm.locals ≤ R.locals)
    (hPc : va_P D vwCl wc H) (hDc : va_D A wc) (hS : va_S A s.heap H locs) (hn : As.length = n) (hsize : ls.size = nL) (hst : st0 = As.reverse ++ .ref b :: rest) (hcat : (rest.map fun v => v.category).sum ≤ 8) (hdg : decode cc pc = .ok (.invokespecial index, 3)) (hf : cells + mc ≤ R.cells ∧ slots + ms ≤ R.slots) :
    va_Run p l e R s m args below meth c H locs cells slots mc ms (F0 m pc ls st0) rest (Qc (Value.ref b :: As).toArray) free := by
  obtain ⟨hx, hb, hr, hml, hown, hts, hlk, hK, hA, hN⟩ := C
  exact va_runIN (As := As) (rest := rest) (Ts := tb) (host := host) ⟨hx, hb, hml, hown, hts⟩ hM ⟨va_cnB n hts (gi h5) rfl hrc hrs (hN.1 _ h1) (hts _ h4) hd hR, hi, hts _ h2⟩ ⟨blindP, fun U hU hW => ⟨kp_pre (av := .ref b :: As) hPc hK hDc hS hA hN U hU hW, trivial⟩⟩ rfl hn hsize hst (lv_room hcat) hdg hf
variable {w1 wr ws' : va_W} {av : Array Value}
theorem goVc (C : cx p s m args meth c cc nL rt own D cy A) (hr : va_Run p l e R s m args below meth c H locs cells slots 0 0 (F0 m pc ls st0) rest (kqv D cy w1 (va_A wc H.size) av) (va_A wc H.size)) (hP : va_P D vwCl ws H) (hD : va_D A ws) (hS : va_S A s.heap H locs)
    (isC isR isP : List Nat) (hC : isC.map (fun i => ws[i]?) = wc.map some) (hRr : isR.map (fun i => ws[i]?) = wr.map some) (hnR : va_nd isR = true) (hdis : ∀ i ∈ isR, i ∉ isC) (hPm : isP.map (fun i => (wr ++ w1)[i]?) = ws'.map some) (hnP : va_nd isP = true)
    (kk : ∀ (H1 : Heap) (locs1 : List Loc), va_P D vwCl ws' H1 → va_D A ws' → va_S A s.heap H1 locs1 → W p l e R s m args below meth c H1 locs1 cells slots Q (F0 m (pc + 3) ls rest)) : W p l e R s m args below meth c H locs cells slots Q (F0 m pc ls st0) := by
  obtain ⟨hx, hb, hr', hml, hown, hts, hlk, hK, hA, hN⟩ := C
  have hFc := va_free (wc := wc) hD hS hA isC hC
  refine va_callv hr hS (fun q _ h => hFc q h) hFc (fun u t H1 locs1 ht hvm hw hB hz1 hk1 hS1 => ?_)
  obtain ⟨hP1, hK1, hD1⟩ := hB
  rw [ht] at hP1
  obtain ⟨hP2, hD2⟩ := va_join hP hD isC isR hC hRr hnR hdis hk1 hFc hP1 hD1
  exact kk H1 locs1 (hP2.sub isP (fm_of hPm)) (hD2.sub isP hnP hPm) hS1
/-- behind a constructor: the other cells, then the callee's -/
theorem goN {mc ms : Nat} {wf : (Nat → Nat) → va_W} (C : cx p s m args meth c cc nL rt own D cy A) (hr : va_Run p l e R s m args below meth c H locs cells slots mc ms (F0 m pc ls st0) rest (kqn D cy wf (va_A wc H.size) av) (va_A wc H.size)) (hP : va_P D vwCl ws H) (hD : va_D A ws) (hS : va_S A s.heap H locs)
    (isC isR : List Nat) (hC : isC.map (fun i => ws[i]?) = wc.map some) (hRr : isR.map (fun i => ws[i]?) = wr.map some) (hnR : va_nd isR = true) (hdis : ∀ i ∈ isR, i ∉ isC)
    (kk : ∀ (u : Nat → Nat) (H1 : Heap) (locs1 : List Loc), va_P D vwCl (wr ++ wf u) H1 → va_D A (wr ++ wf u) → va_S A s.heap H1 locs1 → W p l e R s m args below meth c H1 locs1 (cells + mc) (slots + ms) Q (F0 m (pc + 3) ls rest)) : W p l e R s m args below meth c H locs cells slots Q (F0 m pc ls st0) := by
  obtain ⟨hx, hb, hr', hml, hown, hts, hlk, hK, hA, hN⟩ := C
  have hFc := va_free (wc := wc) hD hS hA isC hC
  refine va_callv hr hS (fun q _ h => hFc q h) hFc (fun u t H1 locs1 ht hvm hw hB hz1 hk1 hS1 => ?_)
  obtain ⟨hP1, hK1, hD1⟩ := hB
  rw [ht] at hP1
  obtain ⟨hP2, hD2⟩ := va_join hP hD isC isR hC hRr hnR hdis hk1 hFc hP1 hD1
  exact kk u H1 locs1 hP2 hD2 hS1
theorem ret_n {mc ms : Nat} {wf : (Nat → Nat) → va_W} (u : Nat → Nat) (C : cx p s m args meth c cc nL none own D cy A) (hP : va_P D vwCl (wf u) H) (hD : va_D A (wf u)) (hS : va_S A s.heap H locs) (hdg : decode cc pc = .ok (.return_, 1)) : W p l e R s m args below meth c H locs mc ms (MQ below (kqn D cy wf A) args s mc ms A) (F0 m pc ls []) := by
  obtain ⟨hx, hb, hr, hml, hown, hts, hlk, hK, hA, hN⟩ := C
  exact W.vret hx hb hr (fun t ht hW => ⟨⟨u, rfl, trivial, by rw [ht]; exact hP, va_K.moved hW.alike hK, hD⟩, hS.F ht⟩) hS.2.2 hdg hlk
end
