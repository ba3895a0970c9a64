/-! functions of the decompiled text, and what a step of them gives -/
def zl {α β : Type} (e : α) (k : α → Option β) : Option β := k e
theorem zl_of {α β : Type} {e : α} {k : α → Option β} {r : Option β} (h : zl e k = r) (x : α) (hx : x = e) : k x = r := by subst hx; exact h
def zc {β : Type} (i : Int32) (n : Nat) (k : Option β) : Option β := if i < 0 ∨ n ≤ i.toNatClampNeg then none else k
theorem zc_of {β : Type} {i : Int32} {n : Nat} {k : Option β} {z : β} (h : zc i n k = some z) : vp_in i n ∧ k = some z := by
  unfold zc at h
  split at h
  · cases h
  · next hc => exact ⟨hc, h⟩
def zn {β : Type} (y : Int32) (k : Option β) : Option β := if y = 0 then none else k
theorem zn_of {β : Type} {y : Int32} {k : Option β} {z : β} (h : zn y k = some z) : ¬ y = 0 ∧ k = some z := by
  unfold zn at h
  split at h
  · cases h
  · next hc => exact ⟨hc, h⟩
def znl {β : Type} (y : Int64) (k : Option β) : Option β := if y = 0 then none else k
theorem znl_of {β : Type} {y : Int64} {k : Option β} {z : β} (h : znl y k = some z) : ¬ y = 0 ∧ k = some z := by
  unfold znl at h
  split at h
  · cases h
  · next hc => exact ⟨hc, h⟩
def zb {α β : Type} (o : Option α) (k : α → Option β) : Option β := o.bind k
theorem zb_of {α β : Type} {o : Option α} {k : α → Option β} {z : β} (h : zb o k = some z) : ∃ a, o = some a ∧ k a = some z := by
  cases o with
  | none => cases h
  | some a => exact ⟨a, rfl, h⟩
theorem zt {c : Prop} {_ : Decidable c} {α : Type} {P Q r : α} (h : c) (hf : (if c then P else Q) = r) : P = r := by rw [if_pos h] at hf; exact hf
theorem zf {c : Prop} {_ : Decidable c} {α : Type} {P Q r : α} (h : ¬ c) (hf : (if c then P else Q) = r) : Q = r := by rw [if_neg h] at hf; exact hf
def zp {σ : Type} (body : σ → Option (Nat × σ)) : Nat → σ → Option (Nat × σ)
  | 0, _ => none
  | n + 1, v => zb (body v) (fun w => if w.1 = 0 then zp body n w.2 else some w)
theorem zp_s {σ : Type} {body : σ → Option (Nat × σ)} {n : Nat} {v : σ} {z : Nat × σ} (h : zp body (n + 1) v = some z) : ∃ w, body v = some w ∧ ((w.1 = 0 ∧ zp body n w.2 = some z) ∨ (¬ w.1 = 0 ∧ w = z)) := by
  obtain ⟨w, h1, h2⟩ := zb_of h
  refine ⟨w, h1, ?_⟩
  by_cases c : w.1 = 0
  · exact Or.inl ⟨c, zt c h2⟩
  · exact Or.inr ⟨c, Option.some.inj (zf c h2)⟩
/-- more fuel than any loop here takes -/
def zF : Nat := 100000
/-! the worlds of the contracts -/
abbrev wtys (cy : Nat → ClassId) : List (ClassId × FieldType) := [(cy 0, .byte), (cy 1, .int), (cy 2, .long), (cy 3, .boolean), (cy 4, .object RX6)]
abbrev aB (cy : Nat → ClassId) (n : Nat) (f : Nat → Int32) : va_E := .inl (cy 0, n, .inl f)
abbrev aI (cy : Nat → ClassId) (n : Nat) (f : Nat → Int32) : va_E := .inl (cy 1, n, .inl f)
abbrev aJ (cy : Nat → ClassId) (n : Nat) (f : Nat → Int64) : va_E := .inl (cy 2, n, .inr (.inl f))
abbrev aZ (cy : Nat → ClassId) (n : Nat) (f : Nat → Int32) : va_E := .inl (cy 3, n, .inl f)
abbrev aR (cy : Nat → ClassId) (n : Nat) (f : Nat → Option Nat) : va_E := .inl (cy 4, n, .inr (.inr (.inr (.inr f))))
def nw (U : State) : Prop := ∀ q ∈ nlist, va_Nw (.methodLinkNest q.1 q.2.1 q.2.2.1 q.2.2.2) U
theorem nw.warm {s U : State} (hW : s.WarmedH U.vm) (h : nw s) : nw U := fun q hq => va_Nw.warmM hW (h q hq)
theorem nw.same {s U : State} (hv : s.vm = U.vm) (h : nw s) : nw U := fun q hq => va_Nw.same rfl hv (h q hq)
def stv : List (Nat × String) := [(100, "bits"), (105, "unit"), (106, "offset"), (107, "top"), (108, "lean"), (109, "ref"), (110, "miss"), (112, "string")]
def slen : List Nat := [4, 4, 6, 3, 4, 3, 4, 6]
def sbyt : List (List Int32) := [[98, 105, 116, 115], [117, 110, 105, 116], [111, 102, 102, 115, 101, 116], [116, 111, 112], [108, 101, 97, 110], [114, 101, 102], [109, 105, 115, 115], [115, 116, 114, 105, 110, 103]]
/-- what is given of the start and stays: links of nest mates, the String constants, two statics -/
def nx (A : Nat → Prop) (U : State) (H : Heap) : Prop := nw U ∧ va_Z "java/lang/String" "COMPACT_STRINGS" "Z" (.int 1) A U H ∧ va_Zq "jdk/internal/util/Preconditions" "SIOOBE_FORMATTER" "Ljava/util/function/BiFunction;" A U H ∧ ∃ adK adV : Nat → Nat, vk_S 8 slen sbyt adK adV A U H ∧ ∀ i : Nat, i < 8 → vk_R "VoltNumbers$Reader" (stv.getD i (0, "")).1 (stv.getD i (0, "")).2 (adK i) U
theorem nx.go {A B : Nat → Prop} {s U : State} {H0 H : Heap} (h : nx A s H0) (hq : ∀ a : Nat, a < H0.size → ¬ A a → H[a]? = H0[a]?) (hAB : ∀ q, B q → A q) (hW : s.WarmedH U.vm) : nx B U H := by
  obtain ⟨h1, h2, h3, adK, adV, h4, h5⟩ := h
  exact ⟨h1.warm hW, ((h2.kept hq).narrow hAB).moved hW.alike, ((h3.kept hq).narrow hAB).moved hW.alike, adK, adV, ((h4.kept hq).narrow hAB).moved hW.alike, fun i hi => (h5 i hi).warm hW⟩
theorem nx.same {A : Nat → Prop} {s U : State} {H : Heap} (hv : s.vm = U.vm) (hal : s.vm.Alike U.vm) (h : nx A s H) : nx A U H := by
  obtain ⟨h1, h2, h3, adK, adV, h4, h5⟩ := h
  exact ⟨h1.same hv, h2.moved hal, h3.moved hal, adK, adV, h4.moved hal, fun i hi => (h5 i hi).same hv.symm⟩
abbrev kp (D : va_G) (cy : Nat → ClassId) (sz : Nat) (av : List Value) (ws : va_W) : Array Value → State → Prop := va_Pc av (fun U => U.heap.size = sz ∧ va_P D vwCl ws U.heap ∧ va_K D vwCl (wtys cy) U ∧ va_D (fun _ => True) ws ∧ nx (va_A ws sz) U U.heap)
abbrev kB (D : va_G) (cy : Nat → ClassId) (A : Nat → Prop) (w1 : va_W) : Unit → State → Prop := fun _ t => va_P D vwCl w1 t.heap ∧ va_K D vwCl (wtys cy) t ∧ va_D A w1
abbrev kqi (D : va_G) (cy : Nat → ClassId) (w1 : va_W) (r : Int32) (A : Nat → Prop) := va_Qi (fun (r' : Int32) (_ : Unit) => r' = r) (kB D cy A w1) A
abbrev kqz (D : va_G) (cy : Nat → ClassId) (w1 : va_W) (r : Int32) (A : Nat → Prop) := va_Qi (fun (r' : Int32) (_ : Unit) => r' = r ∧ narrow .boolean (.int r) = .int r) (kB D cy A w1) A
abbrev kql (D : va_G) (cy : Nat → ClassId) (w1 : va_W) (r : Int64) (A : Nat → Prop) := va_Ql (fun (r' : Int64) (_ : Unit) => r' = r) (kB D cy A w1) A
abbrev kqv (D : va_G) (cy : Nat → ClassId) (w1 : va_W) (A : Nat → Prop) := va_Qv (fun (_ : Unit) => True) (kB D cy A w1) A
theorem kp_blind {D : va_G} {cy : Nat → ClassId} {sz : Nat} {av : List Value} {ws : va_W} : FrameBlind (kp D cy sz av ws) := fun a U g mk q => by
  obtain ⟨q0, q1, qP, qK, qD, qN⟩ := q
  exact ⟨q0, q1, qP, va_K.moved (u := U) (U := U.calling g mk a) (Vm.Alike.refl U.vm) qK, qD, nx.same (s := U) (U := U.calling g mk a) rfl (Vm.Alike.refl U.vm) qN⟩
theorem kp_pre {D : va_G} {cy : Nat → ClassId} {av : List Value} {wc : va_W} {s : State} {H : Heap} {locs : List Loc} {A : Nat → Prop} (hPc : va_P D vwCl wc H) (hKc : va_K D vwCl (wtys cy) s) (hDc : va_D A wc) (hS : va_S A s.heap H locs) (hA : ∀ q : Nat, s.heap.size ≤ q → A q) (hN : nx A s s.heap) : ∀ U : State, U.heap = H → s.WarmedH U.vm → kp D cy H.size av wc av.toArray U := by
  intro U hU hW
  have hAB : ∀ q, va_A wc H.size q → A q := fun q h => by
    rcases h with ⟨k, e, hk⟩ | h
    · exact hDc.2 k _ hk
    · exact hA q (Nat.le_trans hS.1 h)
  exact ⟨rfl, by rw [hU], by rw [hU]; exact hPc, va_K.moved hW.alike hKc, hDc.weaken (fun _ _ _ _ => trivial), by rw [hU]; exact hN.go hS.2.1 hAB hW⟩
/-- what holds in a method's body all the way -/
def cx (p : Program) (s : State) (m : MethodId) (args : Array Value) (meth : Method) (c : Code) (cc : ByteArray) (nL : Nat) (ret : Option FieldType) (own : String) (D : va_G) (cy : Nat → ClassId) (A : Nat → Prop) : Prop :=
  p.tables.exec = Jvm.exec ∧ c.code = cc ∧ meth.sig.returnType = ret ∧ c.maxLocals = nL ∧ s.vm.findClass own = some m.cls ∧ (∀ w ∈ tb, w.before args s = true) ∧ meth.locks = false ∧ va_K D vwCl (wtys cy) s ∧ (∀ q : Nat, s.heap.size ≤ q → A q) ∧ nx A s s.heap
theorem gi {w : Cond} (h : w ∈ tb) : GoodIn tb (w :: tb) := fun x hx => by
  have g : ∀ y ∈ tb, y ∈ tb ∧ ((y.onTables && y.keeps) = true ∨ ∃ ty, y = .arrayClass ty) := fun y hy => ⟨hy, good_of_word (List.mem_filter.mp hy).2⟩
  rcases List.mem_cons.mp hx with e | hx
  · subst e; exact g _ h
  · exact g _ hx
theorem fm_of {α β : Type} {f : α → Option β} {is : List α} {w : List β} (h : is.map f = w.map some) : is.filterMap f = w := by
  have e : is.filterMap f = (is.map f).filterMap id := by rw [List.filterMap_map]; rfl
  rw [e, h, List.filterMap_map]
  simp
section
variable {p : Program} {l : Launch} {e : Env} {R : Room} {s : State} {m : MethodId} {args : Array Value} {below : List Frame} {meth : Method} {c : Code} {H : Heap} {locs : List Loc} {Q : State → Prop} {D : va_G} {cy : Nat → ClassId} {A : Nat → Prop} {ls : Array Slot} {cc : ByteArray} {nL pc : Nat} {rt : Option FieldType} {own : String}
theorem met_of {y : MethodName} {ret : Option FieldType} {rm : Room} {sz : Nat} {av : List Value} {ws : va_W} (Qf : (Nat → Prop) → Array Value → State → Outcome → State → Prop)
    (hy : plainFor y = true) (hn : (lg_sl av).length ≤ nL)
    (body : ∀ p e s m below meth c A ls, cx p s m av.toArray meth c cc nL ret y.cls D cy A → va_P D vwCl ws s.heap → va_D A ws → va_S A s.heap s.heap [] → lv_has ls nL (lv_args 0 av) →
      W p l e rm s m av.toArray below meth c s.heap [] 0 0 (MQ below (Qf A) av.toArray s 0 0 A) (F0 m 0 ls [])) :
    Met l y (.code y cc nL ret :: tb) rm (kp D cy sz av ws) (Qf (va_A ws sz)) 0 0 (va_A ws sz) := by
  refine MetFree.of_bodySF (code := cc) (maxLocals := nL) (ret := ret) hy (fun args s m h hn => ?_) (fun p e s m args below meth c s₁ B hml hv _ => ?_)
  · obtain ⟨meth, c, h1, h2, h3, h4, h5, h6, -, -⟩ := Cond.code_spec hn (atoms_spec (ws := .code y cc nL ret :: tb) h _ List.mem_cons_self)
    exact ⟨meth, c, h1, h2, h3, h4, h5, h6⟩
  have hh0 : s₁.heap = s.heap := by rw [B.state]; rfl
  suffices K : W p l e (headSpec (.code y cc nL ret :: tb) rm).room s m args below meth c s.heap [] 0 0 (MQ below (Qf (va_A ws sz)) args s 0 0 (va_A ws sz)) (entryFrame m args nL) by
    obtain ⟨t, a1, o, b1, b2, b3⟩ := K s₁ hh0 (Stand.of_body B)
    exact ⟨t, o, a1, b1, b2, ⟨b3.1, b3.2⟩⟩
  obtain ⟨rfl, hsz, hP, hK, hD0, hN⟩ := hv
  have hts := atoms_spec (ws := .code y cc nL ret :: tb) B.pre
  have hown : s.vm.findClass y.cls = some m.cls := findClass_of_methodNamed B.named
  subst hsz
  have hD := hD0.self (sz := s.heap.size)
  have hl := lv_entry av (n := nL) hn
  rw [lg_entry_eq]
  exact body p e s m below meth c _ _ ⟨B.exec, B.bytes, B.returns, hml, hown, fun w h => hts w (List.mem_cons_of_mem _ h), B.notSynchronized, hK, fun q h => Or.inr h, hN⟩ hP hD va_S.rf hl
theorem ret_i {w1 : va_W} {v : Int32} (C : cx p s m args meth c cc nL (some .int) own D cy A) (hP : va_P D vwCl w1 H) (hD : va_D A w1) (hS : va_S A s.heap H locs) (hdg : decode cc pc = .ok (.ireturn, 1)) : W p l e R s m args below meth c H locs 0 0 (MQ below (kqi D cy w1 v A) args s 0 0 A) (F0 m pc ls [.int v]) := by
  obtain ⟨hx, hb, hr, hml, hown, hts, hlk, hK, hA, hN⟩ := C
  exact W.iret (v := v) hx hb hr (fun t ht hW => ⟨⟨v, (), rfl, rfl, by rw [ht]; exact hP, va_K.moved hW.alike hK, hD⟩, hS.F ht⟩) hS.2.2 hdg hlk
theorem ret_z {w1 : va_W} {v : Int32} (C : cx p s m args meth c cc nL (some .boolean) own D cy A) (hv : narrow .boolean (.int v) = .int v) (hP : va_P D vwCl w1 H) (hD : va_D A w1) (hS : va_S A s.heap H locs) (hdg : decode cc pc = .ok (.ireturn, 1)) : W p l e R s m args below meth c H locs 0 0 (MQ below (kqz D cy w1 v A) args s 0 0 A) (F0 m pc ls [.int v]) := by
  obtain ⟨hx, hb, hr, hml, hown, hts, hlk, hK, hA, hN⟩ := C
  exact W.zret (v := v) hx hb hr hv (fun t ht hW => ⟨⟨v, (), rfl, ⟨rfl, hv⟩, by rw [ht]; exact hP, va_K.moved hW.alike hK, hD⟩, hS.F ht⟩) hS.2.2 hdg hlk
theorem ret_l {w1 : va_W} {v : Int64} (C : cx p s m args meth c cc nL (some .long) own D cy A) (hP : va_P D vwCl w1 H) (hD : va_D A w1) (hS : va_S A s.heap H locs) (hdg : decode cc pc = .ok (.lreturn, 1)) : W p l e R s m args below meth c H locs 0 0 (MQ below (kql D cy w1 v A) args s 0 0 A) (F0 m pc ls [.long v]) := by
  obtain ⟨hx, hb, hr, hml, hown, hts, hlk, hK, hA, hN⟩ := C
  exact W.lret (v := v) hx hb hr (fun t ht hW => ⟨⟨v, (), rfl, rfl, by rw [ht]; exact hP, va_K.moved hW.alike hK, hD⟩, hS.F ht⟩) hS.2.2 hdg hlk
theorem ret_v {w1 : va_W} (C : cx p s m args meth c cc nL none own D cy A) (hP : va_P D vwCl w1 H) (hD : va_D A w1) (hS : va_S A s.heap H locs) (hdg : decode cc pc = .ok (.return_, 1)) : W p l e R s m args below meth c H locs 0 0 (MQ below (kqv D cy w1 A) args s 0 0 A) (F0 m pc ls []) := by
  obtain ⟨hx, hb, hr, hml, hown, hts, hlk, hK, hA, hN⟩ := C
  exact W.vret hx hb hr (fun t ht hW => ⟨⟨(), rfl, trivial, by rw [ht]; exact hP, va_K.moved hW.alike hK, hD⟩, hS.F ht⟩) hS.2.2 hdg hlk
/-! calls -/
variable {y : MethodName} {bytes : ByteArray} {maxL n index : Nat} {ret : Option FieldType} {rm : Room} {As rest st0 : List Value} {wc : va_W} {Qc : Array Value → State → Outcome → State → Prop} {free : Addr → Prop}
theorem runV {Cn : String} {b ci : Nat} {T : u_T} {N : Nat} {fs : List Value} (C : cx p s m args meth c cc nL rt own D cy A) (hM : Met l y (.code y bytes maxL ret :: tb) rm (kp D cy H.size (.ref b :: As) wc) Qc 0 0 free)
    (h1 : Cond.methodLink own index y ∈ tb) (h2 : Cond.instanceMethod y ∈ tb) (h3 : Cond.selects Cn y y ∈ tb) (h4 : Cond.initialized y.cls ∈ tb) (h5 : Cond.code y bytes maxL ret ∈ tb)
    (hd : y.cls ≠ "java/lang/invoke/MethodHandle" ∧ y.cls ≠ "java/lang/invoke/VarHandle" ∧ (parseMethodDescriptor y.desc).map (fun d => d.parameters.length) = some n) (hrc : rm.cells = 0) (hrs : rm.slots = 0) (hR : rm.frames + 1 ≤ R.frames ∧ 8 + (maxL + 11) + rm.locals ≤ R.locals)
    (hPc : va_P D vwCl wc H) (hDc : va_D A wc) (hS : va_S A s.heap H locs) (hc : vwCl[ci]? = some (Cn, T, N)) (he : wc[0]? = some (b, .inr (ci, fs))) (hn : As.length = n) (hsize : ls.size = nL) (hst : st0 = As.reverse ++ .ref b :: rest) (hcat : (rest.map fun v => v.category).sum ≤ 8) (hdg : decode cc pc = .ok (.invokevirtual index, 3)) :
    va_Run p l e R s m args below meth c H locs 0 0 0 0 (F0 m pc ls st0) rest (Qc (Value.ref b :: As).toArray) free := by
  obtain ⟨hx, hb, hr, hml, hown, hts, hlk, hK, hA, hN⟩ := C
  exact va_runV (As := As) (rest := rest) (Ts := tb) ⟨hx, hb, hml, hown, hts⟩ hM ⟨callB_of n hts (gi h5) rfl hrc hrs (hts _ h4) (hts _ h1) hd hR, hts _ h2, hts _ h3⟩ ⟨kp_blind, va_recv hK hPc hc he, kp_pre (av := .ref b :: As) hPc hK hDc hS hA hN⟩ rfl hn hsize hst (lv_room hcat) hdg ⟨Nat.zero_le _, Nat.zero_le _⟩
theorem runS (C : cx p s m args meth c cc nL rt own D cy A) (hM : Met l y (.code y bytes maxL ret :: tb) rm (kp D cy H.size As wc) Qc 0 0 free)
    (h1 : Cond.methodLink own index y ∈ tb) (h2 : Cond.static y ∈ tb) (h4 : Cond.initialized y.cls ∈ tb) (h5 : Cond.code y bytes maxL ret ∈ tb)
    (hd : y.cls ≠ "java/lang/invoke/MethodHandle" ∧ y.cls ≠ "java/lang/invoke/VarHandle" ∧ (parseMethodDescriptor y.desc).map (fun d => d.parameters.length) = some n) (hrc : rm.cells = 0) (hrs : rm.slots = 0) (hR : rm.frames + 1 ≤ R.frames ∧ 8 + (maxL + 11) + rm.locals ≤ R.locals)
    (hPc : va_P D vwCl wc H) (hDc : va_D A wc) (hS : va_S A s.heap H locs) (hn : As.length = n) (hsize : ls.size = nL) (hst : st0 = As.reverse ++ rest) (hcat : (rest.map fun v => v.category).sum ≤ 8) (hdg : decode cc pc = .ok (.invokestatic index, 3)) :
    va_Run p l e R s m args below meth c H locs 0 0 0 0 (F0 m pc ls st0) rest (Qc As.toArray) free := by
  obtain ⟨hx, hb, hr, hml, hown, hts, hlk, hK, hA, hN⟩ := C
  exact va_runS (As := As) (rest := rest) (Ts := tb) ⟨hx, hb, hml, hown, hts⟩ hM ⟨callB_of n hts (gi h5) rfl hrc hrs (hts _ h4) (hts _ h1) hd hR, hts _ h2⟩ ⟨kp_blind, kp_pre (av := As) hPc hK hDc hS hA hN⟩ rfl hn hsize hst (lv_room hcat) hdg ⟨Nat.zero_le _, Nat.zero_le _⟩
theorem runSN {host : String} (C : cx p s m args meth c cc nL rt own D cy A) (hM : Met l y (.code y bytes maxL ret :: tb) rm (kp D cy H.size As wc) Qc 0 0 free)
    (h1 : (own, index, y, host) ∈ nlist) (h2 : Cond.static y ∈ tb) (h4 : Cond.initialized y.cls ∈ tb) (h5 : Cond.code y bytes maxL ret ∈ tb)
    (hd : y.cls ≠ "java/lang/invoke/MethodHandle" ∧ y.cls ≠ "java/lang/invoke/VarHandle" ∧ (parseMethodDescriptor y.desc).map (fun d => d.parameters.length) = some n) (hrc : rm.cells = 0) (hrs : rm.slots = 0) (hR : rm.frames + 1 ≤ R.frames ∧ 8 + (maxL + 11) + rm.locals ≤ R.locals)
    (hPc : va_P D vwCl wc H) (hDc : va_D A wc) (hS : va_S A s.heap H locs) (hn : As.length = n) (hsize : ls.size = nL) (hst : st0 = As.reverse ++ rest) (hcat : (rest.map fun v => v.category).sum ≤ 8) (hdg : decode cc pc = .ok (.invokestatic index, 3)) :
    va_Run p l e R s m args below meth c H locs 0 0 0 0 (F0 m pc ls st0) rest (Qc As.toArray) free := by
  obtain ⟨hx, hb, hr, hml, hown, hts, hlk, hK, hA, hN⟩ := C
  exact va_runSN (As := As) (rest := rest) (Ts := tb) (host := host) ⟨hx, hb, hml, hown, hts⟩ hM ⟨va_cnB n hts (gi h5) rfl hrc hrs (hN.1 _ h1) (hts _ h4) hd hR, hts _ h2, trivial⟩ ⟨kp_blind, kp_pre (av := As) hPc hK hDc hS hA hN⟩ rfl hn hsize hst (lv_room hcat) hdg ⟨Nat.zero_le _, Nat.zero_le _⟩
variable {w1 wr ws ws' : va_W} {av : Array Value}
theorem goI {r : Int32} (C : cx p s m args meth c cc nL rt own D cy A) (hr : va_Run p l e R s m args below meth c H locs 0 0 0 0 (F0 m pc ls st0) rest (kqi D cy w1 r (va_A wc H.size) av) (va_A wc H.size)) (hP : va_P D vwCl ws H) (hD : va_D A ws) (hS : va_S A s.heap H locs)
    (isC isR isP : List Nat) (hC : isC.map (fun i => ws[i]?) = wc.map some) (hRr : isR.map (fun i => ws[i]?) = wr.map some) (hnR : va_nd isR = true) (hdis : ∀ i ∈ isR, i ∉ isC) (hPm : isP.map (fun i => (wr ++ w1)[i]?) = ws'.map some) (hnP : va_nd isP = true)
    (kk : ∀ (H1 : Heap) (locs1 : List Loc), va_P D vwCl ws' H1 → va_D A ws' → va_S A s.heap H1 locs1 → W p l e R s m args below meth c H1 locs1 0 0 Q (F0 m (pc + 3) ls (.int r :: rest))) : W p l e R s m args below meth c H locs 0 0 Q (F0 m pc ls st0) := by
  obtain ⟨hx, hb, hr', hml, hown, hts, hlk, hK, hA, hN⟩ := C
  have hFc := va_free (wc := wc) hD hS hA isC hC
  refine va_calli hr hS (fun q _ h => hFc q h) hFc (fun r' u t H1 locs1 ht hvm hw hB hz1 hk1 hS1 => ?_)
  subst hw
  obtain ⟨hP1, hK1, hD1⟩ := hB
  rw [ht] at hP1
  obtain ⟨hP2, hD2⟩ := va_join hP hD isC isR hC hRr hnR hdis hk1 hFc hP1 hD1
  exact kk H1 locs1 (hP2.sub isP (fm_of hPm)) (hD2.sub isP hnP hPm) hS1
theorem goZ {r : Int32} (C : cx p s m args meth c cc nL rt own D cy A) (hr : va_Run p l e R s m args below meth c H locs 0 0 0 0 (F0 m pc ls st0) rest (kqz D cy w1 r (va_A wc H.size) av) (va_A wc H.size)) (hP : va_P D vwCl ws H) (hD : va_D A ws) (hS : va_S A s.heap H locs)
    (isC isR isP : List Nat) (hC : isC.map (fun i => ws[i]?) = wc.map some) (hRr : isR.map (fun i => ws[i]?) = wr.map some) (hnR : va_nd isR = true) (hdis : ∀ i ∈ isR, i ∉ isC) (hPm : isP.map (fun i => (wr ++ w1)[i]?) = ws'.map some) (hnP : va_nd isP = true)
    (kk : ∀ (H1 : Heap) (locs1 : List Loc), narrow .boolean (.int r) = .int r → va_P D vwCl ws' H1 → va_D A ws' → va_S A s.heap H1 locs1 → W p l e R s m args below meth c H1 locs1 0 0 Q (F0 m (pc + 3) ls (.int r :: rest))) : W p l e R s m args below meth c H locs 0 0 Q (F0 m pc ls st0) := by
  obtain ⟨hx, hb, hr', hml, hown, hts, hlk, hK, hA, hN⟩ := C
  have hFc := va_free (wc := wc) hD hS hA isC hC
  refine va_calli hr hS (fun q _ h => hFc q h) hFc (fun r' u t H1 locs1 ht hvm hw hB hz1 hk1 hS1 => ?_)
  obtain ⟨hw, hnar⟩ := hw
  subst hw
  obtain ⟨hP1, hK1, hD1⟩ := hB
  rw [ht] at hP1
  obtain ⟨hP2, hD2⟩ := va_join hP hD isC isR hC hRr hnR hdis hk1 hFc hP1 hD1
  exact kk H1 locs1 hnar (hP2.sub isP (fm_of hPm)) (hD2.sub isP hnP hPm) hS1
theorem goL {r : Int64} (C : cx p s m args meth c cc nL rt own D cy A) (hr : va_Run p l e R s m args below meth c H locs 0 0 0 0 (F0 m pc ls st0) rest (kql D cy w1 r (va_A wc H.size) av) (va_A wc H.size)) (hP : va_P D vwCl ws H) (hD : va_D A ws) (hS : va_S A s.heap H locs)
    (isC isR isP : List Nat) (hC : isC.map (fun i => ws[i]?) = wc.map some) (hRr : isR.map (fun i => ws[i]?) = wr.map some) (hnR : va_nd isR = true) (hdis : ∀ i ∈ isR, i ∉ isC) (hPm : isP.map (fun i => (wr ++ w1)[i]?) = ws'.map some) (hnP : va_nd isP = true)
    (kk : ∀ (H1 : Heap) (locs1 : List Loc), va_P D vwCl ws' H1 → va_D A ws' → va_S A s.heap H1 locs1 → W p l e R s m args below meth c H1 locs1 0 0 Q (F0 m (pc + 3) ls (.long r :: rest))) : W p l e R s m args below meth c H locs 0 0 Q (F0 m pc ls st0) := by
  obtain ⟨hx, hb, hr', hml, hown, hts, hlk, hK, hA, hN⟩ := C
  have hFc := va_free (wc := wc) hD hS hA isC hC
  refine va_calll hr hS (fun q _ h => hFc q h) hFc (fun r' u t H1 locs1 ht hvm hw hB hz1 hk1 hS1 => ?_)
  subst hw
  obtain ⟨hP1, hK1, hD1⟩ := hB
  rw [ht] at hP1
  obtain ⟨hP2, hD2⟩ := va_join hP hD isC isR hC hRr hnR hdis hk1 hFc hP1 hD1
  exact kk H1 locs1 (hP2.sub isP (fm_of hPm)) (hD2.sub isP hnP hPm) hS1
theorem goV (C : cx p s m args meth c cc nL rt own D cy A) (hr : va_Run p l e R s m args below meth c H locs 0 0 0 0 (F0 m pc ls st0) rest (kqv D cy w1 (va_A wc H.size) av) (va_A wc H.size)) (hP : va_P D vwCl ws H) (hD : va_D A ws) (hS : va_S A s.heap H locs)
    (isC isR isP : List Nat) (hC : isC.map (fun i => ws[i]?) = wc.map some) (hRr : isR.map (fun i => ws[i]?) = wr.map some) (hnR : va_nd isR = true) (hdis : ∀ i ∈ isR, i ∉ isC) (hPm : isP.map (fun i => (wr ++ w1)[i]?) = ws'.map some) (hnP : va_nd isP = true)
    (kk : ∀ (H1 : Heap) (locs1 : List Loc), va_P D vwCl ws' H1 → va_D A ws' → va_S A s.heap H1 locs1 → W p l e R s m args below meth c H1 locs1 0 0 Q (F0 m (pc + 3) ls rest)) : W p l e R s m args below meth c H locs 0 0 Q (F0 m pc ls st0) := by
  obtain ⟨hx, hb, hr', hml, hown, hts, hlk, hK, hA, hN⟩ := C
  have hFc := va_free (wc := wc) hD hS hA isC hC
  refine va_callv hr hS (fun q _ h => hFc q h) hFc (fun u t H1 locs1 ht hvm hw hB hz1 hk1 hS1 => ?_)
  obtain ⟨hP1, hK1, hD1⟩ := hB
  rw [ht] at hP1
  obtain ⟨hP2, hD2⟩ := va_join hP hD isC isR hC hRr hnR hdis hk1 hFc hP1 hD1
  exact kk H1 locs1 (hP2.sub isP (fm_of hPm)) (hD2.sub isP hnP hPm) hS1
theorem W_rf {a : Nat} {x : Option Nat} (h : x = some a) (k : W p l e R s m args below meth c H locs 0 0 Q (F0 m pc ls (.ref a :: rest))) : W p l e R s m args below meth c H locs 0 0 Q (F0 m pc ls (va_rf x :: rest)) := by subst h; exact k
end
def zrow (a b c d : Nat) : Nat → Option Nat := fun j => some (if j = 0 then a else if j = 1 then b else if j = 2 then c else d)
theorem zrow_3 {a b c d : Nat} {k : Int32} (h : vp_in k 4) (h0 : ¬ k = 0) (h1 : ¬ k = 1) (h2 : ¬ k = 2) : zrow a b c d k.toNatClampNeg = some d := by
  obtain ⟨j, hj, rfl⟩ := vp_in_of h (by decide)
  rw [nI_clamp (by omega)]
  have e0 : j ≠ 0 := fun e => h0 (by rw [e]; rfl)
  have e1 : j ≠ 1 := fun e => h1 (by rw [e]; rfl)
  have e2 : j ≠ 2 := fun e => h2 (by rw [e]; rfl)
  simp [zrow, e0, e1, e2]
theorem zne {x k : Int32} {n : Int} (h : ¬ x = k) (e : k.toInt = n) : x.toInt ≠ n := fun h2 => h (Int32.toInt_inj.mp (h2.trans e.symm))

