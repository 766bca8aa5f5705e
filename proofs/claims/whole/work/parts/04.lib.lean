def nestM : List (String × Nat × MethodName) := [(RX11, 11, yX4_init), (RX11, 18, yX1_init), (RX11, 25, yX10_init), (RX11, 32, yX8_init), (RX11, 39, yX3_init), (RX3, 9, yX1_init), (RX3, 18, yX10_init), (RX3, 25, yX8_init), (RX11, 46, yX6_init), (RX11, 53, yX7_init), (RX11, 60, yX2_init), (RX11, 67, yX5_init), (RX11, 74, yX9_init), (RX11, 81, yX0_init), (RX1, 33, yX11_lane), (RX1, 43, yX11_flag), (RX6, 50, yX11_flag), (RX1, 55, yX11_numbersOf), (RX6, 74, yX11_sum), (RX7, 54, yX11_flag), (RX7, 65, yX11_lane), (RX2, 86, yX11_lane), (RX0, 76, yX11_flag)]
def nestF : List (String × Nat) := [(RX7, 37), (RX5, 38), (RX9, 52), (RX0, 86)]
/-! the words of the tables that hold at every moment, one list for all methods -/
def WS : List Cond := lw_tbl.filter goodWord
theorem T1 {w : Cond} (i : Nat) (h : tables_1_1[i]? = some w) : w ∈ tables_1 := List.mem_append_left _ (List.mem_of_getElem? h)
theorem T2 {w : Cond} (i : Nat) (h : tables_1_2[i]? = some w) : w ∈ tables_1 := List.mem_append_right _ (List.mem_append_left _ (List.mem_of_getElem? h))
theorem T3 {w : Cond} (i : Nat) (h : tables_1_3[i]? = some w) : w ∈ tables_1 := List.mem_append_right _ (List.mem_append_right _ (List.mem_append_left _ (List.mem_of_getElem? h)))
theorem T4 {w : Cond} (i : Nat) (h : tables_1_4[i]? = some w) : w ∈ tables_1 := List.mem_append_right _ (List.mem_append_right _ (List.mem_append_right _ (List.mem_append_left _ (List.mem_of_getElem? h))))
theorem T5 {w : Cond} (i : Nat) (h : tables_1_5[i]? = some w) : w ∈ tables_1 := List.mem_append_right _ (List.mem_append_right _ (List.mem_append_right _ (List.mem_append_right _ (List.mem_of_getElem? h))))
theorem WS_of {w : Cond} (h : w ∈ tables_1) (hg : goodWord w = true) : w ∈ WS := List.mem_filter.mpr ⟨List.mem_append_right _ h, hg⟩
theorem WS_sel {q : MethodName × Nat} (h : q ∈ lw_privs) (hg : goodWord (Cond.selects q.1.cls q.1 q.1) = true) : Cond.selects q.1.cls q.1 q.1 ∈ WS := List.mem_filter.mpr ⟨List.mem_append_left _ (List.mem_map.mpr ⟨q, h, rfl⟩), hg⟩
theorem WS_good : ∀ w ∈ WS, (w.onTables && w.keeps) = true ∨ ∃ ty, w = .arrayClass ty := fun w h => good_of_word (List.mem_filter.mp h).2
theorem WS_in {a : List Cond} (h : ∀ w ∈ a, w ∈ WS) : GoodIn WS a := fun w hw => ⟨h w hw, WS_good w (h w hw)⟩
theorem WS_cons {w : Cond} (h : w ∈ WS) : GoodIn WS (w :: WS) := WS_in (fun v hv => (List.mem_cons.mp hv).elim (fun e => e ▸ h) id)
abbrev rmH (h mc ms : Nat) : Room := { frames := h, cells := mc, slots := ms, locals := 60 * h }
/-- what a nest mate's private members need, and the table of signs -/
def mvI : Nat → Int32 := fun j => if j = 0 then 43 else if j = 1 then 45 else 46
def mvf : Nat → Value := fun j => .int (mvI j)
def EV (mv : Nat) (A : Nat → Prop) (U : State) (H : Heap) : Prop := ((∀ q ∈ nestM, va_Nw (.methodLinkNest q.1 q.2.1 q.2.2 "PailChain") U) ∧ (∀ q ∈ nestF, va_Nw (.fieldLinkNest q.1 q.2 "PailChain" "MOVES" "[I" "PailChain") U)) ∧ va_AO "PailChain$Image" U ∧ va_Z "PailChain" "MOVES" "[I" (.ref mv) A U H ∧ va_T .int mv 3 mvf A U H
theorem EV.call {mv : Nat} {A B : Nat → Prop} {s U : State} {H : Heap} {locs : List Loc} (h : EV mv A s s.heap) (hS : va_S A s.heap H locs) (hB : ∀ q, B q → A q) (hU : U.heap = H) (hW : s.WarmedH U.vm) : EV mv B U U.heap := by
  obtain ⟨⟨h1, h2⟩, h3, h4, h5⟩ := h
  rw [hU]
  exact ⟨⟨fun q hq => va_Nw.warmM hW (h1 q hq), fun q hq => va_Nw.warmF hW (h2 q hq)⟩, va_AO.moved hW.alike h3, ((h4.kept (fun a q1 q2 => hS.2.1 a q1 q2)).narrow hB).moved hW.alike, ((h5.kept (fun a q1 q2 => hS.2.1 a q1 q2)).narrow hB).moved hW.alike⟩
theorem EV.blind {mv : Nat} {A : Nat → Prop} {U : State} {g : JFrame} {mk : MethodId} {a : Array Value} (h : EV mv A U U.heap) : EV mv A (U.calling g mk a) (U.calling g mk a).heap := by
  obtain ⟨⟨h1, h2⟩, h3, h4, h5⟩ := h
  exact ⟨⟨fun q hq => va_Nw.same rfl (rfl : U.vm = (U.calling g mk a).vm) (h1 q hq), fun q hq => va_Nw.same rfl (rfl : U.vm = (U.calling g mk a).vm) (h2 q hq)⟩, va_AO.moved (u := U) (U := U.calling g mk a) (Vm.Alike.refl U.vm) h3, va_Z.moved (Vm.Alike.refl U.vm) h4, va_T.moved (Vm.Alike.refl U.vm) h5⟩
abbrev TY (g : Nat → ClassId) : List (ClassId × FieldType) := [(g 0, .int), (g 1, .long), (g 2, .boolean), (g 3, .object "PailChain$Image")]
def Wd (dd : va_G) (g : Nat → ClassId) (mv : Nat) (A : Nat → Prop) (s : State) (H : Heap) (locs : List Loc) (ws : va_W) : Prop := va_K dd classes (TY g) s ∧ va_P dd classes ws H ∧ va_D A ws ∧ va_S A s.heap H locs ∧ (∀ q : Nat, s.heap.size ≤ q → A q) ∧ EV mv A s s.heap
theorem fm_of_map {α β : Type} (f : α → Option β) : ∀ (is : List α) (ws : List β), is.map f = ws.map some → is.filterMap f = ws
  | [], [], _ => rfl
  | [], _ :: _, h => by cases h
  | _ :: _, [], h => by cases h
  | a :: is, b :: ws, h => by
    rw [List.map_cons, List.map_cons] at h
    injection h with h1 h2
    rw [List.filterMap_cons, h1, fm_of_map f is ws h2]
theorem Wd.sub {dd : va_G} {g : Nat → ClassId} {mv : Nat} {A : Nat → Prop} {s : State} {H : Heap} {locs : List Loc} {ws ws' : va_W} (h : Wd dd g mv A s H locs ws) (is : List Nat) (hn : va_nd is = true) (hs : is.map (fun i => ws[i]?) = ws'.map some) : Wd dd g mv A s H locs ws' :=
  ⟨h.1, h.2.1.sub is (fm_of_map _ _ _ hs), h.2.2.1.sub is hn hs, h.2.2.2⟩
def PW (dd : va_G) (g : Nat → ClassId) (mv : Nat) (wc : va_W) (sz : Nat) (U : State) : Prop := U.heap.size = sz ∧ va_P dd classes wc U.heap ∧ va_K dd classes (TY g) U ∧ va_D (fun _ => True) wc ∧ EV mv (va_A wc sz) U U.heap
def QW (dd : va_G) (g : Nat → ClassId) (A : Nat → Prop) (w1 : va_W) (t : State) : Prop := va_P dd classes w1 t.heap ∧ va_K dd classes (TY g) t ∧ va_D A w1
def Qo (dd : va_G) (g : Nat → ClassId) {G : Type} (o : Option Value) (w1 : G → va_W) (A : Nat → Prop) : Array Value → State → Outcome → State → Prop := fun _ st oc t => (∃ u : G, oc = .returned o ∧ QW dd g A (w1 u) t) ∧ va_F A st t
theorem PW.blind {dd : va_G} {g : Nat → ClassId} {mv : Nat} {wc : va_W} {sz : Nat} {As : List Value} : FrameBlind (va_Pc As (PW dd g mv wc sz)) := by
  intro a U g' mk q
  obtain ⟨q0, q1, qP, qK, qD, qE⟩ := q
  exact ⟨q0, q1, qP, va_K.moved (u := U) (U := U.calling g' mk a) (Vm.Alike.refl U.vm) qK, qD, qE.blind⟩
section LIB
variable {p : Program} {l : Launch} {e : Env} {R : Room} {s : State} {m : MethodId} {args : Array Value} {below : List Frame} {meth : Method} {c : Code} {H : Heap} {locs : List Loc} {cells slots : Nat} {Q : State → Prop}
variable {cc : ByteArray} {pc nL : Nat} {ls : Array Slot} {rest : List Value} {dd : va_G} {g : Nat → ClassId} {mv : Nat} {A : Nat → Prop} {own : String} {ws : va_W}
abbrev Fx (p : Program) (m : MethodId) (c : Code) (cc : ByteArray) (nL : Nat) (s : State) (args : Array Value) (own : String) : Prop := CallFix p m c cc nL s args WS own
/-- a contract from a walk of the body -/
theorem Met_intro {y : MethodName} {maxL : Nat} {ret : Option FieldType} {rm : Room} {As : List Value} {wc : va_W} {sz mc ms : Nat} {Qf : (Nat → Prop) → Array Value → State → Outcome → State → Prop} (hy : plainName y.cls = true) (hl : (lg_sl As).length ≤ maxL)
    (body : ∀ (p : Program) (e : Env) (s : State) (m : MethodId) (below : List Frame) (meth : Method) (c : Code) (A : Nat → Prop) (ls : Array Slot), Fx p m c cc maxL s As.toArray y.cls → meth.sig.returnType = ret → meth.locks = false → meth.name = y.name → Wd dd g mv A s s.heap [] wc → lv_has ls maxL (lv_args 0 As) →
      W p l e rm s m As.toArray below meth c s.heap [] 0 0 (MQ below (Qf A) As.toArray s mc ms A) (F0 m 0 ls [])) :
    Met l y (.code y cc maxL ret :: WS) rm (va_Pc As (PW dd g mv wc sz)) (Qf (va_A wc sz)) mc ms (va_A wc sz) := by
  refine Met.ofW (cc := cc) (maxL := maxL) (ret := ret) hy rfl ?_
  intro p e s m args below meth c s₁ B hml hv
  obtain ⟨rfl, hsz, hP, hK, hD0, hE⟩ := hv
  have hts := atoms_spec (ws := .code y cc maxL ret :: WS) B.pre
  have hown : s.vm.findClass y.cls = some m.cls := findClass_of_methodNamed B.named
  subst hsz
  have hD := hD0.self (sz := s.heap.size)
  rw [lg_entry_eq]
  exact body p e s m below meth c (va_A wc s.heap.size) _ ⟨B.exec, B.bytes, hml, hown, fun w h => hts w (List.mem_cons_of_mem _ h)⟩ B.returns B.notSynchronized (name_of_methodNamed B.named B.method).1 ⟨hK, hP, hD, va_S.rf, fun q h => Or.inr h, hE⟩ (lv_entry As hl)
/-- a call's end, put beside the rest -/
theorem call_o {G : Type} {o : Option Value} {w1 : G → va_W} {wc wr : va_W} {st0 : List Value} {a : Array Value} {mc ms : Nat} (hr : va_Run p l e R s m args below meth c H locs cells slots mc ms (F0 m pc ls st0) rest (Qo dd g o w1 (va_A wc H.size) a) (va_A wc H.size)) (hw : Wd dd g mv A s H locs ws)
    (isC isR : List Nat) (hC : isC.map (fun i => ws[i]?) = wc.map some) (hR : isR.map (fun i => ws[i]?) = wr.map some) (hn : va_nd isR = true) (hdis : ∀ i ∈ isR, i ∉ isC)
    (kk : ∀ (u : G) (H1 : Heap) (locs1 : List Loc), Wd dd g mv A s H1 locs1 (wr ++ w1 u) → W p l e R s m args below meth c H1 locs1 (cells + mc) (slots + ms) Q (F0 m (pc + 3) ls (o.toList ++ rest))) : W p l e R s m args below meth c H locs cells slots Q (F0 m pc ls st0) := by
  obtain ⟨hK, hP, hD, hS, hA, hE⟩ := hw
  have hFc := va_free (wc := wc) hD hS hA isC hC
  intro T hT X
  obtain ⟨v, st₀, t, T', L, h0, X', hL, e1, e2, ⟨⟨u, hv, hP1, hK1, hD1⟩, hz, hk⟩, st⟩ := hr T hT X
  cases hv
  rw [h0] at hz hk
  have hS1 : va_S A s.heap T'.heap (locs ++ L) := ⟨Nat.le_trans hS.1 (by rw [e1]; exact hz), fun q h1 h2 => by rw [e1, hk q (Nat.lt_of_lt_of_le h1 hS.1) (fun z => h2 (hFc q z))]; exact hS.2.1 q h1 h2, fun q hq => by
      rcases List.mem_append.mp hq with h | h
      · exact hS.2.2 q h
      · exact hFc _ (hL q h)⟩
  rw [← e1] at hP1
  obtain ⟨hP2, hD2⟩ := va_join (wr := wr) (w1 := w1 u) hP hD isC isR hC hR hn hdis (fun q h1 h2 => by rw [e1]; exact hk q h1 h2) hFc hP1 hD1
  obtain ⟨t2, a1, b1⟩ := kk u T'.heap (locs ++ L) ⟨hK, hP2, hD2, hS1, hA, hE⟩ T' rfl X'
  exact ⟨t2, st t2 a1, b1⟩
/-- the callee's start, out of the caller's world -/
theorem pre_o {wc : va_W} {As : List Value} (hw : Wd dd g mv A s H locs ws) (isC : List Nat) (hn : va_nd isC = true) (hC : isC.map (fun i => ws[i]?) = wc.map some) : ∀ U : State, U.heap = H → s.WarmedH U.vm → va_Pc As (PW dd g mv wc H.size) As.toArray U := by
  obtain ⟨hK, hP, hD, hS, hA, hE⟩ := hw
  have hPc := hP.sub (ws' := wc) isC (fm_of_map _ _ _ hC)
  have hDc := hD.sub (ws' := wc) isC hn hC
  have hFc := va_free (wc := wc) hD hS hA isC hC
  intro U hU hW
  exact ⟨rfl, by rw [hU], by rw [hU]; exact hPc, va_K.moved hW.alike hK, hDc.weaken (fun _ _ _ _ => trivial), hE.call hS hFc hU hW⟩
def kV (own : String) (index : Nat) (C : String) (y : MethodName) (bytes : ByteArray) (maxL : Nat) (ret : Option FieldType) (n : Nat) : Prop := (Cond.methodLink own index y ∈ WS ∧ Cond.instanceMethod y ∈ WS ∧ Cond.selects C y y ∈ WS ∧ Cond.initialized C ∈ WS ∧ Cond.code y bytes maxL ret ∈ WS) ∧ (y.cls = C ∧ y.cls ≠ "java/lang/invoke/MethodHandle" ∧ y.cls ≠ "java/lang/invoke/VarHandle" ∧ (parseMethodDescriptor y.desc).map (fun d => d.parameters.length) = some n)
def kS (own : String) (index : Nat) (y : MethodName) (bytes : ByteArray) (maxL : Nat) (ret : Option FieldType) (n : Nat) : Prop := (Cond.methodLink own index y ∈ WS ∧ Cond.static y ∈ WS ∧ Cond.initialized own ∈ WS ∧ Cond.code y bytes maxL ret ∈ WS) ∧ (y.cls = own ∧ y.cls ≠ "java/lang/invoke/MethodHandle" ∧ y.cls ≠ "java/lang/invoke/VarHandle" ∧ (parseMethodDescriptor y.desc).map (fun d => d.parameters.length) = some n)
def kN (own : String) (index : Nat) (y : MethodName) (bytes : ByteArray) (maxL : Nat) (ret : Option FieldType) (n : Nat) : Prop := ((own, index, y) ∈ nestM ∧ Cond.static y ∈ WS ∧ Cond.initialized y.cls ∈ WS ∧ Cond.code y bytes maxL ret ∈ WS) ∧ (y.cls ≠ "java/lang/invoke/MethodHandle" ∧ y.cls ≠ "java/lang/invoke/VarHandle" ∧ (parseMethodDescriptor y.desc).map (fun d => d.parameters.length) = some n)
def kI (own : String) (index : Nat) (y : MethodName) (bytes : ByteArray) (maxL n : Nat) : Prop := ((own, index, y) ∈ nestM ∧ Cond.instanceMethod y ∈ WS ∧ Cond.initialized y.cls ∈ WS ∧ Cond.code y bytes maxL none ∈ WS) ∧ y.name = "<init>" ∧ (y.cls ≠ "java/lang/invoke/MethodHandle" ∧ y.cls ≠ "java/lang/invoke/VarHandle" ∧ (parseMethodDescriptor y.desc).map (fun d => d.parameters.length) = some n)
def kJ (own : String) (index : Nat) (y : MethodName) (bytes : ByteArray) (maxL n : Nat) : Prop := (Cond.methodLink own index y ∈ WS ∧ Cond.instanceMethod y ∈ WS ∧ Cond.initialized y.cls ∈ WS ∧ Cond.code y bytes maxL none ∈ WS) ∧ y.name = "<init>" ∧ (y.cls ≠ "java/lang/invoke/MethodHandle" ∧ y.cls ≠ "java/lang/invoke/VarHandle" ∧ (parseMethodDescriptor y.desc).map (fun d => d.parameters.length) = some n)
variable {y : MethodName} {bytes : ByteArray} {maxL mc ms n index h : Nat} {ret : Option FieldType} {Qc : Array Value → State → Outcome → State → Prop} {free : Addr → Prop} {b : Nat} {As : List Value} {wc : va_W} {C : String}
theorem run_V (F : Fx p m c cc nL s args own) (hk : kV own index C y bytes maxL ret n) (hM : Met l y (.code y bytes maxL ret :: WS) (rmH h mc ms) (va_Pc (.ref b :: As) (PW dd g mv wc H.size)) Qc mc ms free) (hw : Wd dd g mv A s H locs ws) (isC : List Nat) (hn : va_nd isC = true) (hC : isC.map (fun i => ws[i]?) = wc.map some) {ci : Nat} {q : vw_C} {fs : List Value} (hc : classes[ci]? = some q) (hq : q.1 = C) (he : wc[0]? = some (b, .inr (ci, fs)))
    (hlen : As.length = n) (hsz : ls.size = nL) {st0 : List Value} (hst : st0 = As.reverse ++ .ref b :: rest) (hrest : (rest.map fun v => v.category).sum ≤ 8) (hdg : decode cc pc = .ok (.invokevirtual index, 3)) (hR : h + 1 ≤ R.frames ∧ 8 + (maxL + 11) + 60 * h ≤ R.locals) (hf : cells + mc ≤ R.cells ∧ slots + ms ≤ R.slots) :
    va_Run p l e R s m args below meth c H locs cells slots mc ms (F0 m pc ls st0) rest (Qc (Value.ref b :: As).toArray) free := by
  obtain ⟨⟨k1, k2, k3, k4, k5⟩, kd⟩ := hk
  subst hst
  subst hq
  exact va_runV (n := n) F hM (cwV n F.2.2.2.2 (WS_in (fun w hw => by
    rcases List.mem_append.mp hw with h | h
    · simp only [List.mem_cons, List.not_mem_nil, or_false] at h
      rcases h with rfl | rfl | rfl | rfl <;> assumption
    · exact (List.mem_cons.mp h).elim (fun e => e ▸ k5) id)) rfl rfl rfl kd hR)
    ⟨PW.blind, va_recv hw.1 (hw.2.1.sub (ws' := wc) isC (fm_of_map _ _ _ hC)) hc he, pre_o hw isC hn hC⟩ rfl hlen hsz rfl (lv_room hrest) hdg hf
theorem run_S (F : Fx p m c cc nL s args own) (hk : kS own index y bytes maxL ret n) (hM : Met l y (.code y bytes maxL ret :: WS) (rmH h mc ms) (va_Pc As (PW dd g mv wc H.size)) Qc mc ms free) (hw : Wd dd g mv A s H locs ws) (isC : List Nat) (hn : va_nd isC = true) (hC : isC.map (fun i => ws[i]?) = wc.map some)
    (hlen : As.length = n) (hsz : ls.size = nL) {st0 : List Value} (hst : st0 = As.reverse ++ rest) (hrest : (rest.map fun v => v.category).sum ≤ 8) (hdg : decode cc pc = .ok (.invokestatic index, 3)) (hR : h + 1 ≤ R.frames ∧ 8 + (maxL + 11) + 60 * h ≤ R.locals) (hf : cells + mc ≤ R.cells ∧ slots + ms ≤ R.slots) :
    va_Run p l e R s m args below meth c H locs cells slots mc ms (F0 m pc ls st0) rest (Qc As.toArray) free := by
  obtain ⟨⟨k1, k2, k4, k5⟩, kd⟩ := hk
  subst hst
  exact va_runS (n := n) F hM (cwS n F.2.2.2.2 (WS_in (fun w hw => by
    rcases List.mem_append.mp hw with h | h
    · simp only [List.mem_cons, List.not_mem_nil, or_false] at h
      rcases h with rfl | rfl | rfl <;> assumption
    · exact (List.mem_cons.mp h).elim (fun e => e ▸ k5) id)) rfl rfl rfl kd hR)
    ⟨PW.blind, pre_o hw isC hn hC⟩ rfl hlen hsz rfl (lv_room hrest) hdg hf
theorem run_N (F : Fx p m c cc nL s args own) (hk : kN own index y bytes maxL ret n) (hM : Met l y (.code y bytes maxL ret :: WS) (rmH h mc ms) (va_Pc As (PW dd g mv wc H.size)) Qc mc ms free) (hw : Wd dd g mv A s H locs ws) (isC : List Nat) (hn : va_nd isC = true) (hC : isC.map (fun i => ws[i]?) = wc.map some)
    (hlen : As.length = n) (hsz : ls.size = nL) {st0 : List Value} (hst : st0 = As.reverse ++ rest) (hrest : (rest.map fun v => v.category).sum ≤ 8) (hdg : decode cc pc = .ok (.invokestatic index, 3)) (hR : h + 1 ≤ R.frames ∧ 8 + (maxL + 11) + 60 * h ≤ R.locals) (hf : cells + mc ≤ R.cells ∧ slots + ms ≤ R.slots) :
    va_Run p l e R s m args below meth c H locs cells slots mc ms (F0 m pc ls st0) rest (Qc As.toArray) free := by
  obtain ⟨⟨k1, k2, k4, k5⟩, kd⟩ := hk
  subst hst
  exact va_runSN (n := n) (host := "PailChain") F hM ⟨va_cnB n F.2.2.2.2 (WS_cons k5) rfl rfl rfl (hw.2.2.2.2.2.1.1 _ k1) (F.2.2.2.2 _ k4) kd hR, F.2.2.2.2 _ k2, trivial⟩
    ⟨PW.blind, pre_o hw isC hn hC⟩ rfl hlen hsz rfl (lv_room hrest) hdg hf
theorem run_I (F : Fx p m c cc nL s args own) (hk : kI own index y bytes maxL n) (hM : Met l y (.code y bytes maxL none :: WS) (rmH h mc ms) (va_Pc (.ref b :: As) (PW dd g mv wc H.size)) Qc mc ms free) (hw : Wd dd g mv A s H locs ws) (isC : List Nat) (hn : va_nd isC = true) (hC : isC.map (fun i => ws[i]?) = wc.map some)
    (hlen : As.length = n) (hsz : ls.size = nL) {st0 : List Value} (hst : st0 = As.reverse ++ .ref b :: rest) (hrest : (rest.map fun v => v.category).sum ≤ 8) (hdg : decode cc pc = .ok (.invokespecial index, 3)) (hR : h + 1 ≤ R.frames ∧ 8 + (maxL + 11) + 60 * h ≤ R.locals) (hf : cells + mc ≤ R.cells ∧ slots + ms ≤ R.slots) :
    va_Run p l e R s m args below meth c H locs cells slots mc ms (F0 m pc ls st0) rest (Qc (Value.ref b :: As).toArray) free := by
  obtain ⟨⟨k1, k2, k4, k5⟩, ky, kd⟩ := hk
  subst hst
  exact va_runIN (n := n) (host := "PailChain") F hM ⟨va_cnB n F.2.2.2.2 (WS_cons k5) rfl rfl rfl (hw.2.2.2.2.2.1.1 _ k1) (F.2.2.2.2 _ k4) kd hR, ky, F.2.2.2.2 _ k2⟩
    ⟨PW.blind, pre_o hw isC hn hC⟩ rfl hlen hsz rfl (lv_room hrest) hdg hf
theorem run_J (F : Fx p m c cc nL s args own) (hk : kJ own index y bytes maxL n) (hM : Met l y (.code y bytes maxL none :: WS) (rmH h mc ms) (va_Pc (.ref b :: As) (PW dd g mv wc H.size)) Qc mc ms free) (hw : Wd dd g mv A s H locs ws) (isC : List Nat) (hn : va_nd isC = true) (hC : isC.map (fun i => ws[i]?) = wc.map some)
    (hlen : As.length = n) (hsz : ls.size = nL) {st0 : List Value} (hst : st0 = As.reverse ++ .ref b :: rest) (hrest : (rest.map fun v => v.category).sum ≤ 8) (hdg : decode cc pc = .ok (.invokespecial index, 3)) (hR : h + 1 ≤ R.frames ∧ 8 + (maxL + 11) + 60 * h ≤ R.locals) (hf : cells + mc ≤ R.cells ∧ slots + ms ≤ R.slots) :
    va_Run p l e R s m args below meth c H locs cells slots mc ms (F0 m pc ls st0) rest (Qc (Value.ref b :: As).toArray) free := by
  obtain ⟨⟨k1, k2, k4, k5⟩, ky, kd⟩ := hk
  subst hst
  exact va_runI (n := n) F hM (cwI n F.2.2.2.2 (WS_cons k5) rfl rfl rfl (F.2.2.2.2 _ k4) (F.2.2.2.2 _ k1) (F.2.2.2.2 _ k2) ky kd hR)
    ⟨PW.blind, pre_o hw isC hn hC⟩ rfl hlen hsz rfl (lv_room hrest) hdg hf
/-- ends -/
theorem ret_i {G : Type} {w1 : G → va_W} {v : Int32} (u : G) (F : Fx p m c cc nL s args own) (hr : meth.sig.returnType = some .int) (hlocks : meth.locks = false) (hw : Wd dd g mv A s H locs (w1 u)) (hc : cells ≤ mc) (hs : slots ≤ ms) (hdg : decode cc pc = .ok (.ireturn, 1)) : W p l e R s m args below meth c H locs cells slots (MQ below (Qo dd g (some (.int v)) w1 A) args s mc ms A) (F0 m pc ls [.int v]) := by
  obtain ⟨hK, hP, hD, hS, hA, hE⟩ := hw
  refine W.widen (k := mc) (n := ms) hc hs ?_
  exact W.iret (v := v) F.1 F.2.1 hr (fun t ht hW => ⟨⟨u, rfl, by rw [ht]; exact hP, va_K.moved hW.alike hK, hD⟩, hS.F ht⟩) hS.2.2 hdg hlocks
theorem ret_z {G : Type} {w1 : G → va_W} {v : Int32} (u : G) (F : Fx p m c cc nL s args own) (hr : meth.sig.returnType = some .boolean) (hlocks : meth.locks = false) (hn : narrow .boolean (.int v) = .int v) (hw : Wd dd g mv A s H locs (w1 u)) (hc : cells ≤ mc) (hs : slots ≤ ms) (hdg : decode cc pc = .ok (.ireturn, 1)) : W p l e R s m args below meth c H locs cells slots (MQ below (Qo dd g (some (.int v)) w1 A) args s mc ms A) (F0 m pc ls [.int v]) := by
  obtain ⟨hK, hP, hD, hS, hA, hE⟩ := hw
  refine W.widen (k := mc) (n := ms) hc hs ?_
  exact W.zret (v := v) F.1 F.2.1 hr hn (fun t ht hW => ⟨⟨u, rfl, by rw [ht]; exact hP, va_K.moved hW.alike hK, hD⟩, hS.F ht⟩) hS.2.2 hdg hlocks
theorem ret_l {G : Type} {w1 : G → va_W} {v : Int64} (u : G) (F : Fx p m c cc nL s args own) (hr : meth.sig.returnType = some .long) (hlocks : meth.locks = false) (hw : Wd dd g mv A s H locs (w1 u)) (hc : cells ≤ mc) (hs : slots ≤ ms) (hdg : decode cc pc = .ok (.lreturn, 1)) : W p l e R s m args below meth c H locs cells slots (MQ below (Qo dd g (some (.long v)) w1 A) args s mc ms A) (F0 m pc ls [.long v]) := by
  obtain ⟨hK, hP, hD, hS, hA, hE⟩ := hw
  refine W.widen (k := mc) (n := ms) hc hs ?_
  exact W.lret (v := v) F.1 F.2.1 hr (fun t ht hW => ⟨⟨u, rfl, by rw [ht]; exact hP, va_K.moved hW.alike hK, hD⟩, hS.F ht⟩) hS.2.2 hdg hlocks
theorem ret_v {G : Type} {w1 : G → va_W} (u : G) (F : Fx p m c cc nL s args own) (hr : meth.sig.returnType = none) (hlocks : meth.locks = false) (hw : Wd dd g mv A s H locs (w1 u)) (hc : cells ≤ mc) (hs : slots ≤ ms) (hdg : decode cc pc = .ok (.return_, 1)) : W p l e R s m args below meth c H locs cells slots (MQ below (Qo dd g none w1 A) args s mc ms A) (F0 m pc ls []) := by
  obtain ⟨hK, hP, hD, hS, hA, hE⟩ := hw
  refine W.widen (k := mc) (n := ms) hc hs ?_
  exact W.vret F.1 F.2.1 hr (fun t ht hW => ⟨⟨u, rfl, by rw [ht]; exact hP, va_K.moved hW.alike hK, hD⟩, hS.F ht⟩) hS.2.2 hdg hlocks
end LIB
theorem g_no {c : Prop} [Decidable c] {α : Type} {x : Option α} {z : α} (h : (if c then none else x) = some z) : ¬ c ∧ x = some z := by
  by_cases hc : c
  · rw [if_pos hc] at h; cases h
  · rw [if_neg hc] at h; exact ⟨hc, h⟩
theorem fuel_ex : ∃ n : Nat, n = 1000000 := ⟨_, rfl⟩
noncomputable def fuel : Nat := Classical.choose fuel_ex
theorem fuel_eq : fuel = 1000000 := Classical.choose_spec fuel_ex
def imgs (a b : Nat) : Nat → Option Nat := va_up (va_up (fun _ => none) 0 (some a)) 1 (some b)
theorem z_nar {v : Int32} (h : ¬ ¬ (v = 0 ∨ v = 1)) : narrow .boolean (.int v) = .int v := by
  rcases Classical.not_not.mp h with rfl | rfl <;> decide
