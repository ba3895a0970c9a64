section
variable {p : Program} {l : Launch} {e : Env} {R : Room} {s : State} {m : MethodId} {args : Array Value} {below : List Frame} {meth : Method} {c : Code} {H : Heap} {locs : List Loc} {Q : State → Prop} {D : va_G} {cy : Nat → ClassId} {A : Nat → Prop} {ls : Array Slot} {cc : ByteArray} {nL pc cells slots : Nat} {rt : Option FieldType} {own : String} {rest st0 : List Value} {y : MethodName} {bytes : ByteArray} {maxL n index : Nat} {rm : Room} {As : List Value} {wc : va_W} {Qc : Array Value → State → Outcome → State → Prop} {free : Addr → Prop}
theorem runIo {b mc ms : Nat} (C : cx p s m args meth c cc nL rt own D cy A) (ho : va_AO RX6 s) (hM : Met l y (.code y bytes maxL none :: tb) rm (fun v U => kp D cy H.size (.ref b :: As) wc v U ∧ va_AO RX6 U) Qc mc ms free)
    (h1 : Cond.methodLink own index y ∈ tb) (h2 : Cond.instanceMethod y ∈ tb) (h4 : Cond.initialized y.cls ∈ tb) (h5 : Cond.code y bytes maxL none ∈ tb) (hi : y.name = "<init>")
    (hd : y.cls ≠ "java/lang/invoke/MethodHandle" ∧ y.cls ≠ "java/lang/invoke/VarHandle" ∧ (parseMethodDescriptor y.desc).map (fun d => d.parameters.length) = some n) (hrc : rm.cells = mc) (hrs : rm.slots = ms) (hR : rm.frames + 1 ≤ R.frames ∧ 8 + (maxL + 11) + rm.locals ≤ R.locals)
    (hPc : va_P D vwCl wc H) (hDc : va_D A wc) (hS : va_S A s.heap H locs) (hn : As.length = n) (hsize : ls.size = nL) (hst : st0 = As.reverse ++ .ref b :: rest) (hcat : (rest.map fun v => v.category).sum ≤ 8) (hdg : decode cc pc = .ok (.invokespecial index, 3)) (hf : cells + mc ≤ R.cells ∧ slots + ms ≤ R.slots) :
    va_Run p l e R s m args below meth c H locs cells slots mc ms (F0 m pc ls st0) rest (Qc (Value.ref b :: As).toArray) free := by
  obtain ⟨hx, hb, hr, hml, hown, hts, hlk, hK, hA, hN⟩ := C
  exact va_runI (As := As) (rest := rest) (Ts := tb) ⟨hx, hb, hml, hown, hts⟩ hM (cwI n hts (gi h5) rfl hrc hrs (hts _ h4) (hts _ h1) (hts _ h2) hi hd hR) ⟨fun a U g mk q => ⟨kp_blind a U g mk q.1, va_AO.moved (u := U) (U := U.calling g mk a) (Vm.Alike.refl U.vm) q.2⟩, fun U hU hW => ⟨kp_pre (av := .ref b :: As) hPc hK hDc hS hA hN U hU hW, ho.moved hW.alike⟩⟩ rfl hn hsize hst (lv_room hcat) hdg hf
end
/-! THE CLAIM OUT OF ONE WALK OF THE LAW'S BODY. Your part is whole_start (and what it stands on); all else here is the same for every law, but numbers. -/
def R_law : String := "VoltNumbersLaw"
def lw_P (b : Addr) (xs : List Int32) (args : Array Value) (s : State) : Prop := args = #[.ref b] ∧ s.IntsAt b xs ∧ xs.length ≤ 3072 ∧ (Jvm.Cond.and given_1 narrow_1).before args s = true
def lw_Q (_ : Array Value) (s : State) (o : Outcome) (t : State) : Prop := o = .returned (some (.int 1)) ∧ Framed s o t [] 600000 7302250
def lw_Z (below : List Frame) (a : Array Value) (s : State) : State → Prop := fun t => ∃ o, t.status = .running ∧ Ended t below o ∧ lw_Q a s o t
/-- the law's own end, with 1 on the stack, nothing written that was there before, its room as the claim has it -/
theorem lw_ret {p : Program} {l : Launch} {e : Env} {s : State} {m : MethodId} {below : List Frame} {meth : Method} {c : Code} {b : Nat} (hx : p.tables.exec = Jvm.exec) (hb : c.code = code) (hr : meth.sig.returnType = ret) (hlocks : meth.locks = false) {pc : Nat} {H : Heap} {ls : Array Slot} (hdg : decode code pc = .ok (.ireturn, 1)) : W p l e room_1 s m #[Value.ref b] below meth c H [] 600000 7302250 (lw_Z below #[Value.ref b] s) (F0 m pc ls [.int 1]) := by
  intro T hT X
  obtain ⟨fs, hret, hrun, hended, hW, hframe⟩ := X.leave (v := some (.int 1)) (hlocks := hlocks) (fun h => by rw [hr] at h; cases h)
  have hmeth' : T.vm.method? m = some meth := X.method'
  refine ⟨T.setFrames fs, ?_, .returned (some (.int 1)), hrun, hended, rfl, ⟨_, rfl⟩, hW, hframe⟩
  jvm_step X.here [X.here.top, hx, hb, hdg, hmeth', hr, ret, narrow_b1]
  (try refine ⟨rfl, ?_⟩); (try refine ⟨rfl, ?_⟩)
  first | (intro acts; rw [hret _ acts rfl rfl rfl]) | rw [hret _ _ rfl rfl rfl]
  exact Steps.refl _
/-- what holds at the law's entry: the machine, the code, the tables' words (any of lw_tbl by 'hts w (by decide +kernel)'), the script of L ints xs at the cell b, what the Statement gives of the start (any of its parts by flat_of_before) -/
def lw_At (p : Program) (s : State) (m : MethodId) (meth : Method) (c : Code) (b L : Nat) (xs : Nat → Int32) : Prop :=
  p.tables.exec = Jvm.exec ∧ c.code = code ∧ meth.sig.returnType = ret ∧ c.maxLocals = 4 ∧ s.vm.findClass R_law = some m.cls ∧ (∀ w ∈ lw_tbl, w.before #[Value.ref b] s = true) ∧ va_X b L xs s s.heap ∧ b < s.heap.size ∧ meth.locks = false ∧ (Jvm.Cond.and given_1 narrow_1).before #[Value.ref b] s = true
def STs (I : TX → TM → Prop) : Prop := ST_feed I ∧ ST_end I ∧ ST_text I ∧ ST_fault I ∧ ST_rule I ∧ ST_out I ∧ ST_lsb I ∧ ST_wide I ∧ ST_bent I ∧ ST_worst I ∧ ST_back I ∧ ST_nearest I ∧ ST_halves I ∧ ST_range I ∧ ST_weak I ∧ ST_stick I ∧ ST_string I ∧ ST_node I ∧ ST_strings I ∧ ST_slopes I ∧ ST_hum I ∧ ST_kept I ∧ ST_ones I ∧ ST_round I ∧ ST_measure I ∧ ST_reckon I ∧ ST_adopt I ∧ ST_apart I ∧ ST_sheet I ∧ ST_lay I ∧ ST_wave I ∧ ST_count I
def INIT (I : TX → TM → Prop) : Prop := ∃ (zx : TX) (zm : TM), f_X11_init = some zx ∧ f_X12_init = some zm ∧ I zx zm
set_option maxHeartbeats 4000000 in
set_option maxRecDepth 100000 in
theorem law_loop {p : Program} {l : Launch} {e : Env} {s : State} {m : MethodId} {below : List Frame} {meth : Method} {c : Code} {D : va_G} {cy : Nat → ClassId} {A : Nat → Prop} {b L qx qm : Nat} {ux um : Nat → Nat} {xs : Nat → Int32} {I : TX → TM → Prop} (hst : STs I) (hL : L ≤ 3072) (C : cx p s m #[Value.ref b] meth c code 4 ret RL D cy A) (hX : va_X b L xs s s.heap) (hbl : b < s.heap.size) (hbA : ¬ A b) (hA0 : ∀ q : Nat, A q → s.heap.size ≤ q) :
    ∀ (n k : Nat) (x3 : Int32) (x : TX) (y : TM) (H : Heap) (locs : List Loc) (ls : Array Slot), L < 6 * k + 6 * n → 6 * k ≤ L → x3 = nI (6 * k) → I x y → va_P D vwCl (wX cy qx ux x ++ wM cy qm um y) H → va_D A (wX cy qx ux x ++ wM cy qm um y) → va_S A s.heap H locs → lv_has ls 4 [(0, .ref b), (1, .ref qx), (2, .ref qm), (3, .int x3)] → W p l e room_1 s m #[Value.ref b] below meth c H locs 53 4155 (lw_Z below #[Value.ref b] s) (F0 m 18 ls []) := by
  obtain ⟨g_feed, g_end, g_text, g_fault, g_rule, g_out, g_lsb, g_wide, g_bent, g_worst, g_back, g_nearest, g_halves, g_range, g_weak, g_stick, g_string, g_node, g_strings, g_slopes, g_hum, g_kept, g_ones, g_round, g_measure, g_reckon, g_adopt, g_apart, g_sheet, g_lay, g_wave, g_count⟩ := hst
  intro n
  induction n with
  | zero => intro k x3 x y H locs ls hn hk; omega
  | succ n ih =>
    intro k x3 x y H locs ls hn hk e3 hI hP hD hS hl
    obtain ⟨hx, hb, hr, hml, hown, hts, hlk, hK, hA, hN⟩ := id C
    refine lv_iload_n hx hb dL_law_18 rfl (lv_at hl 3 rfl) ?_
    refine lv_aload_n hx hb dL_law_19 rfl (lv_at hl 0 rfl) ?_
    refine va_slen hx hb hX hbl hbA hS dL_law_20 ?_
    refine lv_bipush (v := 6) hx hb dL_law_21 (by decide) ?_
    refine lv_isub hx hb dL_law_23 ?_
    refine lv_icmp_gt (tgt := 1242) hx hb dL_law_24 (by decide) (fun _ => ?_) (fun c24 => ?_)
    · refine lv_iconst (v := 1) hx hb dL_law_1242 (by decide) ?_
      refine va_forget (fun q hq => hA0 _ (hS.2.2 q hq)) ?_
      refine W.widen (k := 600000) (n := 7302250) (by decide) (by decide) ?_
      exact lw_ret hx hb hr hlk dL_law_1243
    · have h6 : 6 * k + 6 ≤ L := by
        rw [e3] at c24
        have c25 : ¬ (nI L - nI 6 < nI (6 * k)) := c24
        rw [Int32.lt_iff_toInt_lt, pk_sub_toInt (by omega) (by decide), nI_toInt (by omega)] at c25
        omega
      have hi : ∀ j : Nat, j < 6 → vp_in (x3 + nI j) L := fun j hj => by
        rw [e3, nI_add]
        exact vp_in_nI (by omega) (by omega)
      have hi0 : vp_in x3 L := by rw [e3]; exact vp_in_nI (by omega) (by omega)
      have hi1 : vp_in (x3 + (1 : Int32)) L := hi 1 (by decide)
      have hi2 : vp_in (x3 + (2 : Int32)) L := hi 2 (by decide)
      have hi3 : vp_in (x3 + (3 : Int32)) L := hi 3 (by decide)
      have hi4 : vp_in (x3 + (4 : Int32)) L := hi 4 (by decide)
      have hi5 : vp_in (x3 + (5 : Int32)) L := hi 5 (by decide)
      have hcs : 53 ≤ room_1.cells ∧ 4155 ≤ room_1.slots := by decide
      refine lv_aload_n hx hb dL_law_27 rfl (lv_at hl 0 rfl) ?_
      refine lv_iload_n hx hb dL_law_28 rfl (lv_at hl 3 rfl) ?_
      refine va_sld hx hb hX hbl hbA hS hi0 dL_law_29 ?_
      refine lv_bipush (v := 31) hx hb dL_law_30 (by decide) ?_
      refine lv_iand hx hb dL_law_32 ?_
      obtain ⟨j, hj, ej⟩ := pk_andE (xs x3.toNatClampNeg) (m := 31) 5 (by decide)
      have kk : ∀ (x : TX) (y : TM) (H : Heap) (locs : List Loc), I x y → va_P D vwCl (wX cy qx ux x ++ wM cy qm um y) H → va_D A (wX cy qx ux x ++ wM cy qm um y) → va_S A s.heap H locs → W p l e room_1 s m #[Value.ref b] below meth c H locs 53 4155 (lw_Z below #[Value.ref b] s) (F0 m 1236 ls []) := by
        intro x y H locs hI hP hD hS
        obtain ⟨x4, e4⟩ : ∃ z : Int32, z = x3 + (6 : Int32) := ⟨_, rfl⟩
        refine lv_iinc (v := x4) (lv' := [(3, .int x4), (0, .ref b), (1, .ref qx), (2, .ref qm)]) hx hb dL_law_1236 hl (k := 3) rfl (by rw [e4]; rfl) (by decide) rfl (fun ls hl => ?_)
        refine lv_goto (tgt := 18) hx hb dL_law_1239 (by decide) ?_
        exact ih (k + 1) x4 x y H locs ls (by omega) (by omega) (by rw [e4, e3, show (6 : Int32) = nI 6 from rfl, nI_add]; rfl) hI hP hD hS (lv_sub hl [1, 2, 3, 0] rfl)
      match j, hj, ej with
      | 0, _, ej =>
        refine lv_tableIn (off := 143) (tgt := 176) hx hb dL_law_33 (by rw [ej]; decide) (by rw [ej]; decide) (by rw [ej] <;> rfl) (by decide) ?_
        exact lc_feed g_feed hI C hX hbl hbA hcs hi1 hi2 hi3 hi4 hi5 hP hD hS hl kk
      | 1, _, ej =>
        refine lv_tableIn (off := 196) (tgt := 229) hx hb dL_law_33 (by rw [ej]; decide) (by rw [ej]; decide) (by rw [ej] <;> rfl) (by decide) ?_
        exact lc_end g_end hI C hX hbl hbA hcs hi1 hi2 hi3 hi4 hi5 hP hD hS hl kk
      | 2, _, ej =>
        refine lv_tableIn (off := 219) (tgt := 252) hx hb dL_law_33 (by rw [ej]; decide) (by rw [ej]; decide) (by rw [ej] <;> rfl) (by decide) ?_
        exact lc_text g_text hI C hX hbl hbA hcs hi1 hi2 hi3 hi4 hi5 hP hD hS hl kk
      | 3, _, ej =>
        refine lv_tableIn (off := 232) (tgt := 265) hx hb dL_law_33 (by rw [ej]; decide) (by rw [ej]; decide) (by rw [ej] <;> rfl) (by decide) ?_
        exact lc_fault g_fault hI C hX hbl hbA hcs hi1 hi2 hi3 hi4 hi5 hP hD hS hl kk
      | 4, _, ej =>
        refine lv_tableIn (off := 245) (tgt := 278) hx hb dL_law_33 (by rw [ej]; decide) (by rw [ej]; decide) (by rw [ej] <;> rfl) (by decide) ?_
        exact lc_rule g_rule hI C hX hbl hbA hcs hi1 hi2 hi3 hi4 hi5 hP hD hS hl kk
      | 5, _, ej =>
        refine lv_tableIn (off := 268) (tgt := 301) hx hb dL_law_33 (by rw [ej]; decide) (by rw [ej]; decide) (by rw [ej] <;> rfl) (by decide) ?_
        exact lc_out g_out hI C hX hbl hbA hcs hi1 hi2 hi3 hi4 hi5 hP hD hS hl kk
      | 6, _, ej =>
        refine lv_tableIn (off := 291) (tgt := 324) hx hb dL_law_33 (by rw [ej]; decide) (by rw [ej]; decide) (by rw [ej] <;> rfl) (by decide) ?_
        exact lc_lsb g_lsb hI C hX hbl hbA hcs hi1 hi2 hi3 hi4 hi5 hP hD hS hl kk
      | 7, _, ej =>
        refine lv_tableIn (off := 314) (tgt := 347) hx hb dL_law_33 (by rw [ej]; decide) (by rw [ej]; decide) (by rw [ej] <;> rfl) (by decide) ?_
        exact lc_wide g_wide hI C hX hbl hbA hcs hi1 hi2 hi3 hi4 hi5 hP hD hS hl kk
      | 8, _, ej =>
        refine lv_tableIn (off := 348) (tgt := 381) hx hb dL_law_33 (by rw [ej]; decide) (by rw [ej]; decide) (by rw [ej] <;> rfl) (by decide) ?_
        exact lc_bent g_bent hI C hX hbl hbA hcs hi1 hi2 hi3 hi4 hi5 hP hD hS hl kk
      | 9, _, ej =>
        refine lv_tableIn (off := 382) (tgt := 415) hx hb dL_law_33 (by rw [ej]; decide) (by rw [ej]; decide) (by rw [ej] <;> rfl) (by decide) ?_
        exact lc_worst g_worst hI C hX hbl hbA hcs hi1 hi2 hi3 hi4 hi5 hP hD hS hl kk
      | 10, _, ej =>
        refine lv_tableIn (off := 416) (tgt := 449) hx hb dL_law_33 (by rw [ej]; decide) (by rw [ej]; decide) (by rw [ej] <;> rfl) (by decide) ?_
        exact lc_back g_back hI C hX hbl hbA hcs hi1 hi2 hi3 hi4 hi5 hP hD hS hl kk
      | 11, _, ej =>
        refine lv_tableIn (off := 439) (tgt := 472) hx hb dL_law_33 (by rw [ej]; decide) (by rw [ej]; decide) (by rw [ej] <;> rfl) (by decide) ?_
        exact lc_nearest g_nearest hI C hX hbl hbA hcs hi1 hi2 hi3 hi4 hi5 hP hD hS hl kk
      | 12, _, ej =>
        refine lv_tableIn (off := 462) (tgt := 495) hx hb dL_law_33 (by rw [ej]; decide) (by rw [ej]; decide) (by rw [ej] <;> rfl) (by decide) ?_
        exact lc_halves g_halves hI C hX hbl hbA hcs hi1 hi2 hi3 hi4 hi5 hP hD hS hl kk
      | 13, _, ej =>
        refine lv_tableIn (off := 495) (tgt := 528) hx hb dL_law_33 (by rw [ej]; decide) (by rw [ej]; decide) (by rw [ej] <;> rfl) (by decide) ?_
        exact lc_range g_range hI C hX hbl hbA hcs hi1 hi2 hi3 hi4 hi5 hP hD hS hl kk
      | 14, _, ej =>
        refine lv_tableIn (off := 518) (tgt := 551) hx hb dL_law_33 (by rw [ej]; decide) (by rw [ej]; decide) (by rw [ej] <;> rfl) (by decide) ?_
        exact lc_weak g_weak hI C hX hbl hbA hcs hi1 hi2 hi3 hi4 hi5 hP hD hS hl kk
      | 15, _, ej =>
        refine lv_tableIn (off := 541) (tgt := 574) hx hb dL_law_33 (by rw [ej]; decide) (by rw [ej]; decide) (by rw [ej] <;> rfl) (by decide) ?_
        exact lc_stick g_stick hI C hX hbl hbA hcs hi1 hi2 hi3 hi4 hi5 hP hD hS hl kk
      | 16, _, ej =>
        refine lv_tableIn (off := 574) (tgt := 607) hx hb dL_law_33 (by rw [ej]; decide) (by rw [ej]; decide) (by rw [ej] <;> rfl) (by decide) ?_
        exact lc_string g_string hI C hX hbl hbA hcs hi1 hi2 hi3 hi4 hi5 hP hD hS hl kk
      | 17, _, ej =>
        refine lv_tableIn (off := 617) (tgt := 650) hx hb dL_law_33 (by rw [ej]; decide) (by rw [ej]; decide) (by rw [ej] <;> rfl) (by decide) ?_
        exact lc_node g_node hI C hX hbl hbA hcs hi1 hi2 hi3 hi4 hi5 hP hD hS hl kk
      | 18, _, ej =>
        refine lv_tableIn (off := 650) (tgt := 683) hx hb dL_law_33 (by rw [ej]; decide) (by rw [ej]; decide) (by rw [ej] <;> rfl) (by decide) ?_
        exact lc_strings g_strings hI C hX hbl hbA hcs hi1 hi2 hi3 hi4 hi5 hP hD hS hl kk
      | 19, _, ej =>
        refine lv_tableIn (off := 683) (tgt := 716) hx hb dL_law_33 (by rw [ej]; decide) (by rw [ej]; decide) (by rw [ej] <;> rfl) (by decide) ?_
        exact lc_slopes g_slopes hI C hX hbl hbA hcs hi1 hi2 hi3 hi4 hi5 hP hD hS hl kk
      | 20, _, ej =>
        refine lv_tableIn (off := 746) (tgt := 779) hx hb dL_law_33 (by rw [ej]; decide) (by rw [ej]; decide) (by rw [ej] <;> rfl) (by decide) ?_
        exact lc_hum g_hum hI C hX hbl hbA hcs hi1 hi2 hi3 hi4 hi5 hP hD hS hl kk
      | 21, _, ej =>
        refine lv_tableIn (off := 799) (tgt := 832) hx hb dL_law_33 (by rw [ej]; decide) (by rw [ej]; decide) (by rw [ej] <;> rfl) (by decide) ?_
        exact lc_kept g_kept hI C hX hbl hbA hcs hi1 hi2 hi3 hi4 hi5 hP hD hS hl kk
      | 22, _, ej =>
        refine lv_tableIn (off := 852) (tgt := 885) hx hb dL_law_33 (by rw [ej]; decide) (by rw [ej]; decide) (by rw [ej] <;> rfl) (by decide) ?_
        exact lc_ones g_ones hI C hX hbl hbA hcs hi1 hi2 hi3 hi4 hi5 hP hD hS hl kk
      | 23, _, ej =>
        refine lv_tableIn (off := 895) (tgt := 928) hx hb dL_law_33 (by rw [ej]; decide) (by rw [ej]; decide) (by rw [ej] <;> rfl) (by decide) ?_
        exact lc_round g_round hI C hX hbl hbA hcs hi1 hi2 hi3 hi4 hi5 hP hD hS hl kk
      | 24, _, ej =>
        refine lv_tableIn (off := 938) (tgt := 971) hx hb dL_law_33 (by rw [ej]; decide) (by rw [ej]; decide) (by rw [ej] <;> rfl) (by decide) ?_
        exact lc_measure g_measure hI C hX hbl hbA hcs hi1 hi2 hi3 hi4 hi5 hP hD hS hl kk
      | 25, _, ej =>
        refine lv_tableIn (off := 971) (tgt := 1004) hx hb dL_law_33 (by rw [ej]; decide) (by rw [ej]; decide) (by rw [ej] <;> rfl) (by decide) ?_
        exact lc_reckon g_reckon hI C hX hbl hbA hcs hi1 hi2 hi3 hi4 hi5 hP hD hS hl kk
      | 26, _, ej =>
        refine lv_tableIn (off := 995) (tgt := 1028) hx hb dL_law_33 (by rw [ej]; decide) (by rw [ej]; decide) (by rw [ej] <;> rfl) (by decide) ?_
        exact lc_adopt g_adopt hI C hX hbl hbA hcs hi1 hi2 hi3 hi4 hi5 hP hD hS hl kk
      | 27, _, ej =>
        refine lv_tableIn (off := 1008) (tgt := 1041) hx hb dL_law_33 (by rw [ej]; decide) (by rw [ej]; decide) (by rw [ej] <;> rfl) (by decide) ?_
        exact lc_apart g_apart hI C hX hbl hbA hcs hi1 hi2 hi3 hi4 hi5 hP hD hS hl kk
      | 28, _, ej =>
        refine lv_tableIn (off := 1031) (tgt := 1064) hx hb dL_law_33 (by rw [ej]; decide) (by rw [ej]; decide) (by rw [ej] <;> rfl) (by decide) ?_
        exact lc_sheet g_sheet hI C hX hbl hbA hcs hi1 hi2 hi3 hi4 hi5 hP hD hS hl kk
      | 29, _, ej =>
        refine lv_tableIn (off := 1074) (tgt := 1107) hx hb dL_law_33 (by rw [ej]; decide) (by rw [ej]; decide) (by rw [ej] <;> rfl) (by decide) ?_
        exact lc_lay g_lay hI C hX hbl hbA hcs hi1 hi2 hi3 hi4 hi5 hP hD hS hl kk
      | 30, _, ej =>
        refine lv_tableIn (off := 1117) (tgt := 1150) hx hb dL_law_33 (by rw [ej]; decide) (by rw [ej]; decide) (by rw [ej] <;> rfl) (by decide) ?_
        exact lc_wave g_wave hI C hX hbl hbA hcs hi1 hi2 hi3 hi4 hi5 hP hD hS hl kk
      | 31, _, ej =>
        refine lv_tableIn (off := 1180) (tgt := 1213) hx hb dL_law_33 (by rw [ej]; decide) (by rw [ej]; decide) (by rw [ej] <;> rfl) (by decide) ?_
        exact lc_count g_count hI C hX hbl hbA hcs hi1 hi2 hi3 hi4 hi5 hP hD hS hl kk
      | j + 32, hj, _ => exact absurd hj (by omega)
theorem tb_before {b : Nat} {s : State} (h : ∀ w ∈ lw_tbl, w.before #[Value.ref b] s = true) : ∀ w ∈ tb, w.before #[Value.ref b] s = true := fun w hw => h w (List.mem_filter.mp hw).1
def stm (i : Nat) : Term := Term.string "VoltNumbers$Reader" (stv.getD i (0, "")).1
set_option maxRecDepth 100000 in
theorem st_ex : ∀ i : Nat, i < 8 → Cond.exactly (stm i) "java/lang/String" ∈ flatC (Jvm.Cond.and given_1 narrow_1) := by decide +kernel
set_option maxRecDepth 100000 in
theorem st_co : ∀ i : Nat, i < 8 → Cond.eq (.field (stm i) "java/lang/String" "coder" "B") (.int 0) ∈ flatC (Jvm.Cond.and given_1 narrow_1) := by decide +kernel
set_option maxRecDepth 100000 in
theorem st_ar : ∀ i : Nat, i < 8 → Cond.arrayOf (.field (stm i) "java/lang/String" "value" "[B") .byte ∈ flatC (Jvm.Cond.and given_1 narrow_1) := by decide +kernel
set_option maxRecDepth 100000 in
theorem st_le : ∀ i : Nat, i < 8 → Cond.eq (.length (.field (stm i) "java/lang/String" "value" "[B")) (.int (Int32.ofNat (slen.getD i 0))) ∈ flatC (Jvm.Cond.and given_1 narrow_1) := by decide +kernel
set_option maxRecDepth 100000 in
theorem st_el : ∀ i : Nat, i < 8 → ∀ j : Nat, j < slen.getD i 0 → Cond.eq (.elem (.field (stm i) "java/lang/String" "value" "[B") (.int (Int32.ofNat j))) (.int ((sbyt.getD i []).getD j 0)) ∈ flatC (Jvm.Cond.and given_1 narrow_1) := by decide +kernel
set_option maxRecDepth 100000 in
theorem st_ne : ∀ i : Nat, i < 8 → ∀ j : Nat, j < 8 → i ≠ j → (Cond.not (Cond.eq (stm i) (stm j)) ∈ flatC (Jvm.Cond.and given_1 narrow_1) ∨ Cond.not (Cond.eq (stm j) (stm i)) ∈ flatC (Jvm.Cond.and given_1 narrow_1)) := by decide +kernel
set_option maxRecDepth 100000 in
theorem st_sr : ∀ i : Nat, i < 8 → Cond.stringRef "VoltNumbers$Reader" (stv.getD i (0, "")).1 (stv.getD i (0, "")).2 ∈ lw_tbl := by decide +kernel
set_option maxRecDepth 100000 in
theorem st_z1 : Cond.eq (.static "java/lang/String" "COMPACT_STRINGS" "Z") (.int 1) ∈ flatC (Jvm.Cond.and given_1 narrow_1) := by decide +kernel
set_option maxRecDepth 100000 in
theorem st_z2 : Cond.isRef (.static "jdk/internal/util/Preconditions" "SIOOBE_FORMATTER" "Ljava/util/function/BiFunction;") ∈ flatC (Jvm.Cond.and given_1 narrow_1) := by decide +kernel
set_option maxRecDepth 100000 in
theorem st_l1 : Cond.laysStatic "java/lang/String" "COMPACT_STRINGS" "Z" ∈ lw_tbl := by decide +kernel
set_option maxRecDepth 100000 in
theorem st_l2 : Cond.laysStatic "jdk/internal/util/Preconditions" "SIOOBE_FORMATTER" "Ljava/util/function/BiFunction;" ∈ lw_tbl := by decide +kernel
set_option maxRecDepth 100000 in
theorem st_ao : Cond.arrayOver (.object RX6) ∈ lw_tbl := by decide +kernel
theorem nx_start {b : Nat} {s : State} {A : Nat → Prop} (hts : ∀ w ∈ lw_tbl, w.before #[Value.ref b] s = true) (hgv : (Jvm.Cond.and given_1 narrow_1).before #[Value.ref b] s = true) (hA : ∀ a : Nat, a < s.heap.size → ¬ A a) : nx A s s.heap := by
  have hs := flat_of_before _ hgv
  have hb := tb_before hts
  refine ⟨fun q hq => va_Nw.of rfl (hts _ (nlist_in q hq)), va_Zof (hts _ st_l1) (hb _ ii_J0) (va_eqi (hs _ st_z1)) hA, va_Zqof (hts _ st_l2) (hb _ ii_J3) (hs _ st_z2) hA, ?_⟩
  obtain ⟨adK, adV, h1, h2⟩ := vk_Sof (args := #[Value.ref b]) (s := s) (N := 8) (tm := stm) (len := slen) (byt := sbyt) (A := A) (fun i _ => slen_lt i) (fun i hi => hs _ (st_ex i hi)) (fun i hi => hs _ (st_co i hi)) (fun i hi => hs _ (st_ar i hi)) (fun i hi => hs _ (st_le i hi)) (fun i hi j hj => hs _ (st_el i hi j hj)) (fun i j hi hj hij => (st_ne i hi j hj hij).elim (fun h => Or.inl (hs _ h)) (fun h => Or.inr (hs _ h))) hA
  exact ⟨adK, adV, h1, fun i hi => vk_R.of (hts _ (st_sr i hi)) (h2 i hi)⟩
theorem arr_start {args : Array Value} {s : State} {ty : FieldType} (h : (Cond.arrayClass ty).before args s = true) (hp : refKind ty = false) : ∃ cA : ClassId, ArrOfT s cA ty ∧ va_RA s cA ty := by
  obtain ⟨cA, kA, comp, h1, h2, h3⟩ := Cond.arrayClass_spec h
  refine ⟨cA, fun n z => ⟨fun k h => (by cases h), kA, h2, comp, h3⟩, ?_⟩
  cases ty <;> first | exact h1 | (simp [refKind] at hp)
theorem arrR_start {args : Array Value} {s : State} {n : String} (h : (Cond.arrayOver (.object n)).before args s = true) : ∃ cA : ClassId, ArrOfT s cA (.object n) ∧ va_RA s cA (.object n) := by
  obtain ⟨comp, cA, kA, h1, -, h2, h3, h4⟩ := Cond.arrayOver_spec h
  exact ⟨cA, fun n z => ⟨fun k h => (by cases h), kA, h2, comp, h3⟩, kA, comp, h2, h3, h1, h4⟩
theorem D_start {args : Array Value} {s : State} (hts : ∀ w ∈ tb, w.before args s = true) : ∃ D : va_G, ∀ (k : Nat) (q : vw_C), vwCl[k]? = some q → u_Kn s q.1 q.2.1 q.2.2 (D.1 k) (D.2 k) := by
  obtain ⟨c0, i0, h0⟩ := u_known (C := RX0) (T := TX0) (N := 4) (n := 4) hts ui_X0 (hts _ in_X0)
  obtain ⟨c1, i1, h1⟩ := u_known (C := RX1) (T := TX1) (N := 2) (n := 2) hts ui_X1 (hts _ in_X1)
  obtain ⟨c2, i2, h2⟩ := u_known (C := RX2) (T := TX2) (N := 6) (n := 6) hts ui_X2 (hts _ in_X2)
  obtain ⟨c3, i3, h3⟩ := u_known (C := RX3) (T := TX3) (N := 7) (n := 7) hts ui_X3 (hts _ in_X3)
  obtain ⟨c4, i4, h4⟩ := u_known (C := RX4) (T := TX4) (N := 7) (n := 7) hts ui_X4 (hts _ in_X4)
  obtain ⟨c5, i5, h5⟩ := u_known (C := RX5) (T := TX5) (N := 8) (n := 8) hts ui_X5 (hts _ in_X5)
  obtain ⟨c6, i6, h6⟩ := u_known (C := RX6) (T := TX6) (N := 3) (n := 3) hts ui_X6 (hts _ in_X6)
  obtain ⟨c7, i7, h7⟩ := u_known (C := RX7) (T := TX7) (N := 2) (n := 2) hts ui_X7 (hts _ in_X7)
  obtain ⟨c8, i8, h8⟩ := u_known (C := RX8) (T := TX8) (N := 3) (n := 3) hts ui_X8 (hts _ in_X8)
  obtain ⟨c9, i9, h9⟩ := u_known (C := RX9) (T := TX9) (N := 6) (n := 6) hts ui_X9 (hts _ in_X9)
  obtain ⟨c10, i10, h10⟩ := u_known (C := RX10) (T := TX10) (N := 3) (n := 3) hts ui_X10 (hts _ in_X10)
  obtain ⟨c11, i11, h11⟩ := u_known (C := RX11) (T := TX11) (N := 12) (n := 12) hts ui_X11 (hts _ in_X11)
  obtain ⟨c12, i12, h12⟩ := u_known (C := RX12) (T := TX12) (N := 29) (n := 29) hts ui_X12 (hts _ in_X12)
  refine ⟨(fun k => if k = 0 then c0 else if k = 1 then c1 else if k = 2 then c2 else if k = 3 then c3 else if k = 4 then c4 else if k = 5 then c5 else if k = 6 then c6 else if k = 7 then c7 else if k = 8 then c8 else if k = 9 then c9 else if k = 10 then c10 else if k = 11 then c11 else c12, fun k => if k = 0 then i0 else if k = 1 then i1 else if k = 2 then i2 else if k = 3 then i3 else if k = 4 then i4 else if k = 5 then i5 else if k = 6 then i6 else if k = 7 then i7 else if k = 8 then i8 else if k = 9 then i9 else if k = 10 then i10 else if k = 11 then i11 else i12), ?_⟩
  intro k q hq
  match k, hq with
  | 0, hq => cases hq; exact h0
  | 1, hq => cases hq; exact h1
  | 2, hq => cases hq; exact h2
  | 3, hq => cases hq; exact h3
  | 4, hq => cases hq; exact h4
  | 5, hq => cases hq; exact h5
  | 6, hq => cases hq; exact h6
  | 7, hq => cases hq; exact h7
  | 8, hq => cases hq; exact h8
  | 9, hq => cases hq; exact h9
  | 10, hq => cases hq; exact h10
  | 11, hq => cases hq; exact h11
  | 12, hq => cases hq; exact h12
  | k + 13, hq => simp [vwCl] at hq
theorem cy_start {args : Array Value} {s : State} (hts : ∀ w ∈ tb, w.before args s = true) (ho : (Cond.arrayOver (.object RX6)).before args s = true) : ∃ cy : Nat → ClassId, ∀ (k : Nat) (q : ClassId × FieldType), (wtys cy)[k]? = some q → ArrOfT s q.1 q.2 ∧ va_RA s q.1 q.2 := by
  obtain ⟨c0, h0⟩ := arr_start (hts _ ac_byte) rfl
  obtain ⟨c1, h1⟩ := arr_start (hts _ ac_int) rfl
  obtain ⟨c2, h2⟩ := arr_start (hts _ ac_long) rfl
  obtain ⟨c3, h3⟩ := arr_start (hts _ ac_boolean) rfl
  obtain ⟨c4, h4⟩ := arrR_start ho
  refine ⟨fun k => if k = 0 then c0 else if k = 1 then c1 else if k = 2 then c2 else if k = 3 then c3 else c4, ?_⟩
  intro k q hq
  match k, hq with
  | 0, hq => cases hq; exact h0
  | 1, hq => cases hq; exact h1
  | 2, hq => cases hq; exact h2
  | 3, hq => cases hq; exact h3
  | 4, hq => cases hq; exact h4
  | k + 5, hq => simp [wtys] at hq
set_option maxHeartbeats 4000000 in
set_option maxRecDepth 100000 in
theorem whole_open {I : TX → TM → Prop} (hst : STs I) (hin : INIT I) {p : Program} {e : Env} {s : State} {m : MethodId} {below : List Frame} {meth : Method} {c : Code} (l : Launch) {b L : Nat} {xs : Nat → Int32} (hL : L ≤ 3072) (C0 : lw_At p s m meth c b L xs) : W p l e room_1 s m #[Value.ref b] below meth c s.heap [] 0 0 (lw_Z below #[Value.ref b] s) (entryFrame m ([Value.ref b] : List Value).toArray 4) := by
  obtain ⟨hx, hb, hr, hml, hown, htl, hX, hbl, hlk, hgv⟩ := id C0
  have hts := tb_before htl
  obtain ⟨A, hAe⟩ : ∃ A : Nat → Prop, A = fun q : Nat => s.heap.size ≤ q := ⟨_, rfl⟩
  have hA : ∀ q : Nat, s.heap.size ≤ q → A q := fun q h => by rw [hAe]; exact h
  have hA0 : ∀ q : Nat, A q → s.heap.size ≤ q := fun q h => by rw [hAe] at h; exact h
  have hbA : ¬ A b := fun h => absurd (hA0 b h) (Nat.not_le.mpr hbl)
  obtain ⟨D, hDk⟩ := D_start hts
  obtain ⟨cy, hcy⟩ := cy_start hts (htl _ st_ao)
  have hK : va_K D vwCl (wtys cy) s := ⟨hDk, hcy⟩
  have hN : nx A s s.heap := nx_start htl hgv (fun a ha h => absurd (hA0 a h) (Nat.not_le.mpr ha))
  have hown : s.vm.findClass RL = some m.cls := hown
  have C : cx p s m #[Value.ref b] meth c code 4 ret RL D cy A := ⟨hx, hb, hr, hml, hown, hts, hlk, hK, hA, hN⟩
  have hS : va_S A s.heap s.heap [] := va_S.rf
  have hP : va_P D vwCl [] s.heap := fun k q h => by simp at h
  have hD : va_D A [] := ⟨fun i j p q h => by simp at h, fun k q h => by simp at h⟩
  have hl := lv_entry ([.ref b]) (n := 4) (Nat.le_of_ble_eq_true rfl)
  rw [lg_entry_eq]
  generalize (lg_sl ([.ref b]) ++ List.replicate (4 - (lg_sl ([.ref b])).length) Slot.unset).toArray = ls at hl ⊢
  have hl : lv_has ls 4 [(0, .ref b)] := hl
  obtain ⟨zx, zm, hzx, hzm, hI⟩ := hin
  have ho : va_AO RX6 s := va_AO.of (htl _ st_ao)
  refine va_new (ci := 11) (fs := [.null, .null, .null, .null, .null, .null, .null, .null, .null, .null, .null, .null]) (C := RX11) (T := TX11) (N := 12) hx hb hts ui_X11 tyX11 tyX11_ok hown (hts _ cl_L_7) (hts _ in_X11) (hts _ ii_X11) hK hP hD hS hA rfl (fun j hj => by rcases (show j = 0 ∨ j = 1 ∨ j = 2 ∨ j = 3 ∨ j = 4 ∨ j = 5 ∨ j = 6 ∨ j = 7 ∨ j = 8 ∨ j = 9 ∨ j = 10 ∨ j = 11 by omega) with rfl | rfl | rfl | rfl | rfl | rfl | rfl | rfl | rfl | rfl | rfl | rfl <;> rfl) (Nat.le_of_ble_eq_true rfl) (Nat.le_of_ble_eq_true rfl) dL_law_0 (fun qx H hP hD hS => ?_)
  have hP : va_P D vwCl [(qx, .inr (11, [.null, .null, .null, .null, .null, .null, .null, .null, .null, .null, .null, .null]))] H := hP
  have hD : va_D A [(qx, .inr (11, [.null, .null, .null, .null, .null, .null, .null, .null, .null, .null, .null, .null]))] := hD
  refine W.widen (k := 1) (n := 12) (Nat.le_refl _) (Nat.le_refl _) ?_
  refine lv_dup hx hb dL_law_3 rfl ?_
  refine goN (wr := []) (wf := fun u => wX cy qx u zx) C (runIo (n := 0) (As := []) (rest := [.ref qx]) C ho (c_X11_init l D cy H.size qx hzx) ml_L_9 im_X11_init ii_X11 cd_X11_init rfl hd_X11_init rfl rfl ⟨Nat.le_of_ble_eq_true rfl, Nat.le_of_ble_eq_true rfl⟩ (hP.sub [0] rfl) (hD.sub [0] (by decide) rfl) hS rfl hl.1 rfl (Nat.le_of_ble_eq_true rfl) dL_law_4 ⟨Nat.le_of_ble_eq_true rfl, Nat.le_of_ble_eq_true rfl⟩) hP hD hS [0] [] rfl rfl (by decide) (by decide) (fun ux H locs hP hD hS => ?_)
  have hP : va_P D vwCl (wX cy qx ux zx) H := hP
  have hD : va_D A (wX cy qx ux zx) := hD
  refine W.widen (k := 34) (n := 1297) (Nat.le_refl _) (Nat.le_refl _) ?_
  refine lv_astore_n (lv' := [(1, .ref qx), (0, .ref b)]) hx hb dL_law_7 rfl hl (by decide) rfl (fun ls hl => ?_)
  refine va_new (ci := 12) (fs := [.null, .int 0, .int 0, .int 0, .int 0, .int 0, .int 0, .int 0, .int 0, .null, .null, .null, .null, .int 0, .null, .null, .null, .null, .null, .null, .int 0, .null, .null, .null, .int 0, .null, .null, .null, .null]) (C := RX12) (T := TX12) (N := 29) hx hb hts ui_X12 tyX12 tyX12_ok hown (hts _ cl_L_10) (hts _ in_X12) (hts _ ii_X12) hK hP hD hS hA rfl (fun j hj => by rcases (show j = 0 ∨ j = 1 ∨ j = 2 ∨ j = 3 ∨ j = 4 ∨ j = 5 ∨ j = 6 ∨ j = 7 ∨ j = 8 ∨ j = 9 ∨ j = 10 ∨ j = 11 ∨ j = 12 ∨ j = 13 ∨ j = 14 ∨ j = 15 ∨ j = 16 ∨ j = 17 ∨ j = 18 ∨ j = 19 ∨ j = 20 ∨ j = 21 ∨ j = 22 ∨ j = 23 ∨ j = 24 ∨ j = 25 ∨ j = 26 ∨ j = 27 ∨ j = 28 by omega) with rfl | rfl | rfl | rfl | rfl | rfl | rfl | rfl | rfl | rfl | rfl | rfl | rfl | rfl | rfl | rfl | rfl | rfl | rfl | rfl | rfl | rfl | rfl | rfl | rfl | rfl | rfl | rfl | rfl <;> rfl) (Nat.le_of_ble_eq_true rfl) (Nat.le_of_ble_eq_true rfl) dL_law_8 (fun qm H hP hD hS => ?_)
  refine W.widen (k := 35) (n := 1326) (Nat.le_refl _) (Nat.le_refl _) ?_
  refine lv_dup hx hb dL_law_11 rfl ?_
  refine goN (wr := wX cy qx ux zx) (wf := fun u => wM cy qm u zm) C (runI (n := 0) (As := []) (rest := [.ref qm]) C (c_X12_init l D cy H.size qm hzm) ml_L_12 im_X12_init ii_X12 cd_X12_init rfl hd_X12_init rfl rfl ⟨Nat.le_of_ble_eq_true rfl, Nat.le_of_ble_eq_true rfl⟩ (hP.sub [34] rfl) (hD.sub [34] (by decide) rfl) hS rfl hl.1 rfl (Nat.le_of_ble_eq_true rfl) dL_law_12 ⟨Nat.le_of_ble_eq_true rfl, Nat.le_of_ble_eq_true rfl⟩) hP hD hS [34] (List.range 34) rfl rfl (by decide) (by decide) (fun um H locs hP hD hS => ?_)
  refine W.widen (k := 53) (n := 4155) (Nat.le_refl _) (Nat.le_refl _) ?_
  refine lv_astore_n (lv' := [(2, .ref qm), (1, .ref qx), (0, .ref b)]) hx hb dL_law_15 rfl hl (by decide) rfl (fun ls hl => ?_)
  refine lv_iconst (v := 0) hx hb dL_law_16 (by decide) ?_
  refine lv_istore_n (lv' := [(3, .int 0), (2, .ref qm), (1, .ref qx), (0, .ref b)]) hx hb dL_law_17 rfl hl (by decide) rfl (fun ls hl => ?_)
  exact law_loop hst hL C hX hbl hbA hA0 (L + 1) 0 0 zx zm _ _ _ (by omega) (by omega) nI_0.symm hI hP hD hS (lv_sub hl [3, 2, 1, 0] rfl)
