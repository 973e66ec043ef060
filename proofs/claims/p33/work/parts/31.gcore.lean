/-! The law's own methods: what stands at their start, how they call, how they end. -/
def A0 (s : State) : Nat → Prop := fun q => s.heap.size ≤ q
def gC (p : Program) (l : Launch) (s : State) (m : MethodId) (c : Code) (cc : ByteArray) (nL : Nat) (args : Array Value) (E : xE) (A : Nat → Prop) : Prop :=
  p.tables.exec = Jvm.exec ∧ c.code = cc ∧ c.maxLocals = nL ∧ s.vm.findClass RL = some m.cls ∧ (∀ w ∈ BW, w.before args s = true) ∧ (∀ q, s.heap.size ≤ q → A q) ∧ va_K E.1 vwCl (tyX E) s ∧ nwP s ∧ thP s ∧ stP s ∧ zP A s s.heap ∧ ncP s ∧ l.stackTraces = false
def xV (l : Launch) (E : xE) (y : MethodName) (wd : Cond) (F L mc ms : Nat) (av : List Value) (w0 : va_W) (r : Int32) (w1 : va_W) : Prop :=
  ∀ (sz : Nat) (A : Nat → Prop), (∀ q, sz ≤ q → A q) → va_D A w0 → Met l y (wd :: BW) ({ frames := F, cells := mc, slots := ms, locals := L }) (xPw E av w0 sz A) (xQi E r w1 A) mc ms A
theorem xV_of {l : Launch} {E : xE} {y : MethodName} {cc : ByteArray} {n : Nat} {ret : Option FieldType} {F L mc ms : Nat} {av : List Value} {w0 w1 : va_W} {r : Int32} (hstk : l.stackTraces = false) (hy : plainName y.cls = true) (hcl : y.cls = RL) (hn : (lg_sl av).length ≤ n)
    (body : ∀ (p : Program) (e : Env) (s : State) (m : MethodId) (below : List Frame) (meth : Method) (c : Code) (A : Nat → Prop), gC p l s m c cc n av.toArray E A → meth.sig.returnType = ret → meth.locks = false → va_D A w0 → va_P E.1 vwCl w0 s.heap → va_S A s.heap s.heap [] →
      ∀ ls : Array Slot, lv_has ls n (lv_args 0 av) → W p l e ({ frames := F, cells := mc, slots := ms, locals := L }) s m av.toArray below meth c s.heap [] 0 0 (MQ below (xQi E r w1 A) av.toArray s mc ms A) (F0 m 0 ls [])) : xV l E y (.code y cc n ret) F L mc ms av w0 r w1 := by
  intro sz A hA hD
  refine Met.ofW (cc := cc) (maxL := n) (ret := ret) hy rfl ?_
  intro p e s m args below meth c s₁ B hml hv
  obtain ⟨rfl, hsz, hP, hK, hN, hT, hst, hz, hnc⟩ := hv
  subst hsz
  have hl := lv_entry av (n := n) hn
  rw [lg_entry_eq]
  have hts := atoms_spec (ws := Cond.code y cc n ret :: BW) B.pre
  have ho := findClass_of_methodNamed B.named
  rw [hcl] at ho
  exact body p e s m below meth c A ⟨B.exec, B.bytes, hml, ho, fun w h => hts w (List.mem_cons_of_mem _ h), hA, hK, hN, hT, hst, hz, hnc, hstk⟩ B.returns B.notSynchronized hD hP va_S.rf _ hl
theorem xVh_of {l : Launch} {E : xE} {y : MethodName} {cc : ByteArray} {n : Nat} {ret : Option FieldType} {hh : List (Nat × Nat × Nat × Nat)} {F L mc ms : Nat} {av : List Value} {w0 w1 : va_W} {r : Int32} (hstk : l.stackTraces = false) (hy : plainName y.cls = true) (hcl : y.cls = RL) (hn : (lg_sl av).length ≤ n)
    (body : ∀ (p : Program) (e : Env) (s : State) (m : MethodId) (below : List Frame) (meth : Method) (c : Code) (A : Nat → Prop), gC p l s m c cc n av.toArray E A → c.exceptionTable.toList = tableOf hh → meth.sig.returnType = ret → meth.locks = false → va_D A w0 → va_P E.1 vwCl w0 s.heap → va_S A s.heap s.heap [] →
      ∀ ls : Array Slot, lv_has ls n (lv_args 0 av) → W p l e ({ frames := F, cells := mc, slots := ms, locals := L }) s m av.toArray below meth c s.heap [] 0 0 (MQ below (xQi E r w1 A) av.toArray s mc ms A) (F0 m 0 ls [])) : xV l E y (.codeWith y cc n ret hh) F L mc ms av w0 r w1 := by
  intro sz A hA hD
  refine va_MetW (cc := cc) (maxL := n) (ret := ret) (hh := hh) hy rfl ?_
  intro p e s m args below meth c s₁ B hml hv
  obtain ⟨rfl, hsz, hP, hK, hN, hT, hst, hz, hnc⟩ := hv
  subst hsz
  have hl := lv_entry av (n := n) hn
  rw [lg_entry_eq]
  have hts := atoms_spec (ws := Cond.codeWith y cc n ret hh :: BW) B.pre
  have ho := findClass_of_methodNamed B.named
  rw [hcl] at ho
  exact body p e s m below meth c A ⟨B.exec, B.bytes, hml, ho, fun w h => hts w (List.mem_cons_of_mem _ h), hA, hK, hN, hT, hst, hz, hnc, hstk⟩ (vx_table (x := y) B (hts _ List.mem_cons_self)) B.returns B.notSynchronized hD hP va_S.rf _ hl
section GX
variable {p : Program} {l : Launch} {e : Env} {R : Room} {s : State} {m : MethodId} {args : Array Value} {below : List Frame} {meth : Method} {c : Code} {H : Heap} {locs : List Loc} {cells slots mc ms : Nat} {Q : State → Prop} {cc : ByteArray} {pc : Nat} {ls : Array Slot} {st rest : List Value} {E : xE} {A : Nat → Prop} {w0 w1 : va_W}
variable {y : MethodName} {bytes : ByteArray} {maxL nL F L k index : Nat} {ret : Option FieldType} {C : String} {b : Addr} {As : List Value} {hh : List (Nat × Nat × Nat × Nat)}
theorem gB (hw : ∀ w ∈ BW, w.before args s = true) (hcode : Cond.code y bytes maxL ret ∈ BW) (hlink : Cond.methodLink RL index y ∈ BW) (hini : Cond.initialized y.cls ∈ BW)
    (hd : y.cls ≠ "java/lang/invoke/MethodHandle" ∧ y.cls ≠ "java/lang/invoke/VarHandle" ∧ (parseMethodDescriptor y.desc).map (fun d => d.parameters.length) = some k) (hR : F + 1 ≤ R.frames ∧ 8 + (maxL + 11) + L ≤ R.locals) :
    CallB R s args RL index y bytes maxL ret (.code y bytes maxL ret :: BW) ({ frames := F, cells := mc, slots := ms, locals := L }) mc ms k := by
  refine ⟨rfl, rfl, hR.1, hR.2, xpay hw (fun w h => h) hcode, List.mem_cons_self, hw _ hcode, hw _ hini, ⟨hd.1, hd.2.1⟩, fun sig h => ?_, hw _ hlink⟩
  have h2 := hd.2.2
  rw [h] at h2
  exact (Option.some.inj h2).symm
theorem gRunV {Qp : (Nat → Prop) → Array Value → State → Outcome → State → Prop} (C0 : gC p l s m c cc nL args E A) (hM : xM l E y bytes maxL ret F L (.ref b :: As) w0 Qp) (hcode : Cond.code y bytes maxL ret ∈ BW) (hlink : Cond.methodLink RL index y ∈ BW) (hini : Cond.initialized y.cls ∈ BW) (hin : Cond.instanceMethod y ∈ BW) (hsel : Cond.selects C y y ∈ BW)
    (hd : y.cls ≠ "java/lang/invoke/MethodHandle" ∧ y.cls ≠ "java/lang/invoke/VarHandle" ∧ (parseMethodDescriptor y.desc).map (fun d => d.parameters.length) = some k) (hR : F + 1 ≤ R.frames ∧ 8 + (maxL + 11) + L ≤ R.locals)
    (hP : va_P E.1 vwCl w0 H) (hD : va_D A w0) (hS : va_S A s.heap H locs) (hrecv : ∃ cellB : Cell, H[b]? = some cellB ∧ cellB.vm.isStatics = false ∧ s.vm.findClass C = some cellB.cls) (hn : As.length = k) (hsize : ls.size = nL) (hst : st = As.reverse ++ .ref b :: rest) (hW : (rest.map fun v => v.category).sum ≤ 8) (hdg : decode cc pc = .ok (.invokevirtual index, 3)) (hf : cells ≤ R.cells ∧ slots ≤ R.slots) :
    va_Run p l e R s m args below meth c H locs cells slots 0 0 (F0 m pc ls st) rest (Qp A (Value.ref b :: As).toArray) A := by
  obtain ⟨hx, hb, hml, hown, hw, hA, hK, hN, -, -, -, -, -⟩ := id C0
  exact va_runV (Ts := BW) (As := As) (rest := rest) ⟨hx, hb, hml, hown, hw⟩ (hM H.size A (fun q hq => hA q (Nat.le_trans hS.1 hq)) hD) ⟨gB hw hcode hlink hini hd hR, hw _ hin, hw _ hsel⟩ ⟨xPc.blind, hrecv, xpre hP hK hN⟩ rfl hn hsize hst (lv_room hW) hdg hf
theorem gRunS {Qp : (Nat → Prop) → Array Value → State → Outcome → State → Prop} (C0 : gC p l s m c cc nL args E A) (hM : xM l E y bytes maxL ret F L As w0 Qp) (hcode : Cond.code y bytes maxL ret ∈ BW) (hlink : Cond.methodLink RL index y ∈ BW) (hini : Cond.initialized y.cls ∈ BW) (hstt : Cond.static y ∈ BW)
    (hd : y.cls ≠ "java/lang/invoke/MethodHandle" ∧ y.cls ≠ "java/lang/invoke/VarHandle" ∧ (parseMethodDescriptor y.desc).map (fun d => d.parameters.length) = some k) (hR : F + 1 ≤ R.frames ∧ 8 + (maxL + 11) + L ≤ R.locals)
    (hP : va_P E.1 vwCl w0 H) (hD : va_D A w0) (hS : va_S A s.heap H locs) (hn : As.length = k) (hsize : ls.size = nL) (hst : st = As.reverse ++ rest) (hW : (rest.map fun v => v.category).sum ≤ 8) (hdg : decode cc pc = .ok (.invokestatic index, 3)) (hf : cells ≤ R.cells ∧ slots ≤ R.slots) :
    va_Run p l e R s m args below meth c H locs cells slots 0 0 (F0 m pc ls st) rest (Qp A As.toArray) A := by
  obtain ⟨hx, hb, hml, hown, hw, hA, hK, hN, -, -, -, -, -⟩ := id C0
  exact va_runS (Ts := BW) (As := As) (rest := rest) ⟨hx, hb, hml, hown, hw⟩ (hM H.size A (fun q hq => hA q (Nat.le_trans hS.1 hq)) hD) ⟨gB hw hcode hlink hini hd hR, hw _ hstt⟩ ⟨xPc.blind, xpre hP hK hN⟩ rfl hn hsize hst (lv_room hW) hdg hf
theorem gpre {av : List Value} (C0 : gC p l s m c cc nL args E A) (hP : va_P E.1 vwCl w0 H) (hS : va_S A s.heap H locs) : ∀ U : State, U.heap = H → s.WarmedH U.vm → xPw E av w0 H.size A av.toArray U := by
  obtain ⟨-, -, -, -, -, -, hK, hN, hT, hst, hz, hnc, -⟩ := C0
  exact fun U hU hW => ⟨rfl, by rw [hU], by rw [hU]; exact hP, va_K.moved hW.alike hK, hN.moved hW, hT.moved hW.alike, hst.moved hW, by rw [hU]; exact (hz.kept (fun q h1 h2 => hS.2.1 q h1 h2)).moved hW.alike, hnc.moved hW.alike⟩
theorem gRunU {r : Int32} (C0 : gC p l s m c cc nL args E A) (hM : xV l E y (.code y bytes maxL ret) F L mc ms As w0 r w1) (hcode : Cond.code y bytes maxL ret ∈ BW) (hlink : Cond.methodLink RL index y ∈ BW) (hini : Cond.initialized y.cls ∈ BW) (hstt : Cond.static y ∈ BW)
    (hd : y.cls ≠ "java/lang/invoke/MethodHandle" ∧ y.cls ≠ "java/lang/invoke/VarHandle" ∧ (parseMethodDescriptor y.desc).map (fun d => d.parameters.length) = some k) (hR : F + 1 ≤ R.frames ∧ 8 + (maxL + 11) + L ≤ R.locals)
    (hP : va_P E.1 vwCl w0 H) (hD : va_D A w0) (hS : va_S A s.heap H locs) (hn : As.length = k) (hsize : ls.size = nL) (hst : st = As.reverse ++ rest) (hW : (rest.map fun v => v.category).sum ≤ 8) (hdg : decode cc pc = .ok (.invokestatic index, 3)) (hf : cells + mc ≤ R.cells ∧ slots + ms ≤ R.slots) :
    va_Run p l e R s m args below meth c H locs cells slots mc ms (F0 m pc ls st) rest (xQi E r w1 A As.toArray) A := by
  have hpre := gpre (av := As) C0 hP hS
  obtain ⟨hx, hb, hml, hown, hw, hA, hK, hN, -, -, -, -, -⟩ := C0
  exact va_runS (Ts := BW) (As := As) (rest := rest) ⟨hx, hb, hml, hown, hw⟩ (hM H.size A (fun q hq => hA q (Nat.le_trans hS.1 hq)) hD) ⟨gB hw hcode hlink hini hd hR, hw _ hstt⟩ ⟨xPw.blind, hpre⟩ rfl hn hsize hst (lv_room hW) hdg hf
theorem gRunW {r : Int32} (C0 : gC p l s m c cc nL args E A) (hM : xV l E y (.codeWith y bytes maxL ret hh) F L mc ms As w0 r w1) (hcode : Cond.codeWith y bytes maxL ret hh ∈ BW) (hlink : Cond.methodLink RL index y ∈ BW) (hini : Cond.initialized y.cls ∈ BW) (hstt : Cond.static y ∈ BW)
    (hd : y.cls ≠ "java/lang/invoke/MethodHandle" ∧ y.cls ≠ "java/lang/invoke/VarHandle" ∧ (parseMethodDescriptor y.desc).map (fun d => d.parameters.length) = some k) (hR : F + 1 ≤ R.frames ∧ 8 + (maxL + 11) + L ≤ R.locals)
    (hP : va_P E.1 vwCl w0 H) (hD : va_D A w0) (hS : va_S A s.heap H locs) (hn : As.length = k) (hsize : ls.size = nL) (hst : st = As.reverse ++ rest) (hW : (rest.map fun v => v.category).sum ≤ 8) (hdg : decode cc pc = .ok (.invokestatic index, 3)) (hf : cells + mc ≤ R.cells ∧ slots + ms ≤ R.slots) :
    va_Run p l e R s m args below meth c H locs cells slots mc ms (F0 m pc ls st) rest (xQi E r w1 A As.toArray) A := by
  have hpre := gpre (av := As) C0 hP hS
  obtain ⟨hx, hb, hml, hown, hw, hA, hK, hN, -, -, -, -, -⟩ := C0
  have hcw : vx_CSW R s args RL index y bytes maxL ret hh (.codeWith y bytes maxL ret hh :: BW) ({ frames := F, cells := mc, slots := ms, locals := L }) mc ms k := by
    refine ⟨⟨rfl, rfl, hR.1, hR.2, xpay hw (fun w h => h) hcode, List.mem_cons_self⟩, hw _ hcode, hw _ hini, ⟨hd.1, hd.2.1⟩, fun sig h => ?_, hw _ hlink, hw _ hstt⟩
    have h2 := hd.2.2
    rw [h] at h2
    exact (Option.some.inj h2).symm
  exact vx_runSW (l := l) (e := e) (R := R) (below := below) (meth := meth) (H := H) (locs := locs) (cells := cells) (slots := slots) (Ts := BW) (As := As) (rest := rest) (g := F0 m pc ls st) ⟨hx, hb, hml, hown, hw⟩ (hM H.size A (fun q hq => hA q (Nat.le_trans hS.1 hq)) hD) hcw ⟨xPw.blind, hpre⟩ rfl hn hsize hst (lv_room hW) hdg hf
theorem gci {a : Array Value} {r : Int32} (hr : va_Run p l e R s m args below meth c H locs cells slots mc ms (F0 m pc ls st) rest (xQi E r w1 A a) A) (hS : va_S A s.heap H locs) (kk : ∀ (H1 : Heap) (locs1 : List Loc), va_P E.1 vwCl w1 H1 → va_S A s.heap H1 locs1 → W p l e R s m args below meth c H1 locs1 (cells + mc) (slots + ms) Q (F0 m (pc + 3) ls (.int r :: rest))) : W p l e R s m args below meth c H locs cells slots Q (F0 m pc ls st) :=
  va_calli hr hS (fun _ _ h => h) (fun _ h => h) (fun r1 _ t H1 locs1 ht _ hp hB _ _ hS1 => by subst hp; exact kk H1 locs1 (by rw [← ht]; exact hB) hS1)
theorem gRunT {Qp : (Nat → Prop) → Array Value → State → Outcome → State → Prop} {XC : (Nat → Prop) → String → State → State → Prop} (C0 : gC p l s m c cc nL args E A)
    (hM : xT l E y bytes maxL ret F L (.ref b :: As) w0 Qp XC) (hcode : Cond.code y bytes maxL ret ∈ BW) (hlink : Cond.methodLink RL index y ∈ BW) (hini : Cond.initialized y.cls ∈ BW) (hin : Cond.instanceMethod y ∈ BW) (hsel : Cond.selects C y y ∈ BW)
    (hd : y.cls ≠ "java/lang/invoke/MethodHandle" ∧ y.cls ≠ "java/lang/invoke/VarHandle" ∧ (parseMethodDescriptor y.desc).map (fun d => d.parameters.length) = some k) (hR : F + 1 ≤ R.frames ∧ 8 + (maxL + 11) + L ≤ R.locals)
    (hP : va_P E.1 vwCl w0 H) (hD : va_D A w0) (hS : va_S A s.heap H locs) (hrecv : ∃ cellB : Cell, H[b]? = some cellB ∧ cellB.vm.isStatics = false ∧ s.vm.findClass C = some cellB.cls) (hn : As.length = k) (hsize : ls.size = nL) (hst : st = As.reverse ++ .ref b :: rest) (hW : (rest.map fun v => v.category).sum ≤ 8) (hdg : decode cc pc = .ok (.invokevirtual index, 3)) (hf : cells + 1 ≤ R.cells ∧ slots + 6 ≤ R.slots) :
    vx_Run p l e R s m args below meth c H locs cells slots 1 6 (F0 m pc ls st) rest (Qp A (Value.ref b :: As).toArray) (XC A) A := by
  obtain ⟨hx, hb, hml, hown, hw, hA, hK, hN, hT, hst0, hz, -, -⟩ := C0
  exact vx_runV (Ts := BW) (As := As) (rest := rest) ⟨hx, hb, hml, hown, hw⟩ (hM H.size A (fun q hq => hA q (Nat.le_trans hS.1 hq)) hD) ⟨gB hw hcode hlink hini hd hR, hw _ hin, hw _ hsel⟩ ⟨xPt.blind, hrecv, xptU hP hK hN hT hst0 hz hS (fun _ h => h)⟩ rfl hn hsize hst (lv_room hW) hdg hf
theorem xtci {α β : Type} {res : β ⊕ α} {fr : α → Int32} {fw : α → va_W} {fc : β → Nat} {fx : β → va_W} {a : Array Value} (hr : vx_Run p l e R s m args below meth c H locs cells slots 1 6 (F0 m pc ls st) rest (xTi E res fr fw A a) (xTx E res fc fx A) A) (hS : va_S A s.heap H locs)
    (kx : ∀ (z : β), res = .inl z → ∀ (ce : Cell) (q9 : Addr) (H1 : Heap) (locs1 : List Loc), va_P E.1 vwCl (fx z) H1 → va_S A s.heap H1 locs1 → H1[q9]? = some ce → ce.vm = .none → s.vm.findClass (exN (fc z)) = some ce.cls → vx_W p l e R s m args below meth c H1 locs1 (cells + 1) (slots + 6) Q (F0 m pc ls rest) q9)
    (kk : ∀ (z : α), res = .inr z → ∀ (H1 : Heap) (locs1 : List Loc), va_P E.1 vwCl (fw z) H1 → va_S A s.heap H1 locs1 → W p l e R s m args below meth c H1 locs1 (cells + 1) (slots + 6) Q (F0 m (pc + 3) ls (.int (fr z) :: rest))) : W p l e R s m args below meth c H locs cells slots Q (F0 m pc ls st) :=
  vx_calli hr hS (fun _ _ h => h) (fun _ h => h) (fun _ _ h => h) (fun En ce q9 _ t H1 locs1 ht _ _ hB _ hk hS1 hce hcv hcl => by
    obtain ⟨z, hz, rfl, hPz⟩ := hB
    exact kx z hz ce q9 H1 locs1 (by rw [← ht]; exact hPz) hS1 hce hcv hcl) (fun r1 _ t H1 locs1 ht _ hp hB _ hk hS1 => by
    obtain ⟨z, hz, rfl⟩ := hp
    exact kk z hz H1 locs1 (by rw [← ht]; exact hB z hz) hS1)
theorem gi_ret {r v : Int32} (hx : p.tables.exec = Jvm.exec) (hb : c.code = cc) (hr : meth.sig.returnType = some .int) (hlocks : meth.locks = false) (hP : va_P E.1 vwCl w1 H) (hS : va_S A s.heap H locs) (he : v = r) (h1 : cells ≤ mc) (h2 : slots ≤ ms) (hdg : decode cc pc = .ok (.ireturn, 1)) : W p l e R s m args below meth c H locs cells slots (MQ below (xQi E r w1 A) args s mc ms A) (F0 m pc ls [.int v]) :=
  W.widen h1 h2 (W.iret (v := v) hx hb hr (fun t ht _ => ⟨⟨v, (), rfl, he, by show va_P E.1 vwCl w1 t.heap; rw [ht]; exact hP⟩, hS.F ht⟩) hS.2.2 hdg)
theorem gz_ret {ty : FieldType} {r v : Int32} (hx : p.tables.exec = Jvm.exec) (hb : c.code = cc) (hr : meth.sig.returnType = some ty) (hlocks : meth.locks = false) (hP : va_P E.1 vwCl w1 H) (hS : va_S A s.heap H locs) (he : v = r) (hn : narrow ty (.int v) = .int v) (h1 : cells ≤ mc) (h2 : slots ≤ ms) (hdg : decode cc pc = .ok (.ireturn, 1)) : W p l e R s m args below meth c H locs cells slots (MQ below (xQi E r w1 A) args s mc ms A) (F0 m pc ls [.int v]) :=
  W.widen h1 h2 (W.zret (v := v) hx hb hr hn (fun t ht _ => ⟨⟨v, (), rfl, he, by show va_P E.1 vwCl w1 t.heap; rw [ht]; exact hP⟩, hS.F ht⟩) hS.2.2 hdg)
end GX
theorem thP.cast {U : State} {args : Array Value} (h : thP U) : ∀ c : Nat, 1 ≤ c → c ≤ 3 → (Cond.castable (exN c) (exN c)).before args U = true := by
  have h1 : Cond.castable (exN 1) (exN 1) ∈ THl := by decide +kernel
  have h2 : Cond.castable (exN 2) (exN 2) ∈ THl := by decide +kernel
  have h3 : Cond.castable (exN 3) (exN 3) ∈ THl := by decide +kernel
  intro c hc hc2
  match c, hc, hc2 with
  | 1, _, _ => exact va_Nw.use (THl_face _ h1).2 (h _ h1)
  | 2, _, _ => exact va_Nw.use (THl_face _ h2).2 (h _ h2)
  | 3, _, _ => exact va_Nw.use (THl_face _ h3).2 (h _ h3)
/-- a place of the script, as the law asks for it -/
def cellF (L : Nat) (xs : Nat → Int32) (k : Int32) : Int32 := if Int32.ofNat L ≤ k then 40503 * k + 977 else xs k.toNatClampNeg
theorem nc_f {v : Int32} {N : Nat} (hN : N < 2 ^ 30) (h : inB v N = true) : v.toNatClampNeg < N ∧ (v + 1).toNatClampNeg = v.toNatClampNeg + 1 := by
  have h1 := inB_in h
  unfold vp_in at h1
  have h2 : ¬ v < 0 := fun q => h1 (Or.inl q)
  have h3 : v.toNatClampNeg < N := Nat.not_le.mp fun q => h1 (Or.inr q)
  refine ⟨h3, ?_⟩
  have e0 : (0 : Int32).toInt = 0 := by decide
  have h4 : 0 ≤ v.toInt := by
    have : ¬ v.toInt < (0 : Int32).toInt := fun q => h2 (Int32.lt_iff_toInt_lt.mpr q)
    omega
  have e1 : v.toNatClampNeg = v.toInt.toNat := rfl
  have e2 : (v + 1).toNatClampNeg = (v + 1).toInt.toNat := rfl
  have e3 : (v + 1).toInt = v.toInt + 1 := by
    have : (1 : Int32).toInt = 1 := by decide
    rw [Int32.toInt_add, this, Int.bmod_eq_of_le (by omega) (by omega)]
  omega
theorem cell_in {L : Nat} (hL : L ≤ 260) {k : Int32} (hk : inB k 300 = true) (h : ¬ Int32.ofNat L ≤ k) : vp_in k L := by
  have h1 := inB_in hk
  rintro (q | q)
  · exact h1 (Or.inl q)
  · apply h
    have h2 : ¬ k < 0 := fun q => h1 (Or.inl q)
    have e0 : (0 : Int32).toInt = 0 := by decide
    have h4 : 0 ≤ k.toInt := by
      have : ¬ k.toInt < (0 : Int32).toInt := fun q => h2 (Int32.lt_iff_toInt_lt.mpr q)
      omega
    have e1 : k.toNatClampNeg = k.toInt.toNat := rfl
    rw [Int32.le_iff_toInt_le, Int32.toInt_ofNat_of_lt (by omega)]
    omega
