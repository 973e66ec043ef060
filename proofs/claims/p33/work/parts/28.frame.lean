/-! Calls over a part of a world; the law's own calls, which catch. -/
def frA (A : Nat → Prop) (wr : va_W) : Nat → Prop := fun q => A q ∧ ∀ x ∈ wr, x.1 ≠ q
theorem frA_A {A : Nat → Prop} {wr : va_W} : ∀ q, frA A wr q → A q := fun _ h => h.1
theorem frA_new {A : Nat → Prop} {D : va_G} {cl : List vw_C} {w0 wr : va_W} {H : Heap} (hP : va_P D cl (w0 ++ wr) H) (hA : ∀ q, H.size ≤ q → A q) : ∀ q, H.size ≤ q → frA A wr q := by
  intro q hq
  refine ⟨hA q hq, fun x hx e => ?_⟩
  obtain ⟨i, hi⟩ := List.getElem?_of_mem hx
  have h := (hP (w0.length + i) x (by rw [List.getElem?_append_right (by omega)]; simpa using hi)).lt
  omega
theorem frA_D {A : Nat → Prop} {w0 wr : va_W} (hD : va_D A (w0 ++ wr)) : va_D (frA A wr) w0 := by
  have up : ∀ (i : Nat) (p : Nat × va_E), w0[i]? = some p → (w0 ++ wr)[i]? = some p ∧ i < w0.length := fun i p h => by
    have hl := (List.getElem?_eq_some_iff.mp h).1
    exact ⟨by rw [List.getElem?_append_left hl]; exact h, hl⟩
  refine ⟨fun i j p q hi hj e => hD.1 i j p q (up i p hi).1 (up j q hj).1 e, fun k q hk => ⟨hD.2 k q (up k q hk).1, fun x hx e => ?_⟩⟩
  obtain ⟨j, hj⟩ := List.getElem?_of_mem hx
  have h1 : (w0 ++ wr)[w0.length + j]? = some x := by rw [List.getElem?_append_right (by omega)]; simpa using hj
  have h2 := hD.1 k (w0.length + j) q x (up k q hk).1 h1 e.symm
  have := (up k q hk).2
  omega
theorem frP0 {D : va_G} {cl : List vw_C} {w0 wr : va_W} {H : Heap} (hP : va_P D cl (w0 ++ wr) H) : va_P D cl w0 H := fun k q hk => hP k q (by rw [List.getElem?_append_left (List.getElem?_eq_some_iff.mp hk).1]; exact hk)
theorem frP1 {D : va_G} {cl : List vw_C} {w0 wr : va_W} {H : Heap} (hP : va_P D cl (w0 ++ wr) H) : va_P D cl wr H := fun k q hk => hP (w0.length + k) q (by rw [List.getElem?_append_right (by omega)]; simpa using hk)
theorem frP {A : Nat → Prop} {D : va_G} {cl : List vw_C} {w0 w1 wr : va_W} {H H1 : Heap} (hP : va_P D cl (w0 ++ wr) H) (hk : ∀ q : Nat, q < H.size → ¬ frA A wr q → H1[q]? = H[q]?) (hP1 : va_P D cl w1 H1) : va_P D cl (w1 ++ wr) H1 :=
  hP1.app ((frP1 hP).kept (fun k q hq => hk q.1 ((frP1 hP) k q hq).lt (fun h => h.2 q (List.mem_of_getElem? hq) rfl)))
section FR
variable {p : Program} {l : Launch} {e : Env} {R : Room} {s : State} {m : MethodId} {args : Array Value} {below : List Frame} {meth : Method} {c : Code} {H : Heap} {locs : List Loc} {cells slots : Nat} {Q : State → Prop} {cc : ByteArray} {pc : Nat} {ls : Array Slot} {st rest : List Value} {E : xE} {A : Nat → Prop} {w0 w1 wr : va_W}
variable {y y0 : MethodName} {bytes c0 : ByteArray} {maxL n0 nL F L k index : Nat} {ret r0 : Option FieldType} {own C host : String} {b : Addr} {As : List Value}
theorem xRunVF {Qp : (Nat → Prop) → Array Value → State → Outcome → State → Prop} (C0 : xCtx E p m c cc nL s args own A y0 c0 n0 r0) (hM : xM l E y bytes maxL ret F L (.ref b :: As) w0 Qp) (hcode : Cond.code y bytes maxL ret ∈ BW) (hlink : Cond.methodLink own index y ∈ BW) (hini : Cond.initialized y.cls ∈ BW) (hin : Cond.instanceMethod y ∈ BW) (hsel : Cond.selects C y y ∈ BW)
    (hd : y.cls ≠ "java/lang/invoke/MethodHandle" ∧ y.cls ≠ "java/lang/invoke/VarHandle" ∧ (parseMethodDescriptor y.desc).map (fun d => d.parameters.length) = some k) (hR : F + 1 ≤ R.frames ∧ 8 + (maxL + 11) + L ≤ R.locals)
    (hP : va_P E.1 vwCl (w0 ++ wr) H) (hD : va_D A (w0 ++ wr)) (hS : va_S A s.heap H locs) (hrecv : ∃ cellB : Cell, H[b]? = some cellB ∧ cellB.vm.isStatics = false ∧ s.vm.findClass C = some cellB.cls) (hn : As.length = k) (hsize : ls.size = nL) (hst : st = As.reverse ++ .ref b :: rest) (hW : (rest.map fun v => v.category).sum ≤ 8) (hdg : decode cc pc = .ok (.invokevirtual index, 3)) (hf : cells ≤ R.cells ∧ slots ≤ R.slots) :
    va_Run p l e R s m args below meth c H locs cells slots 0 0 (F0 m pc ls st) rest (Qp (frA A wr) (Value.ref b :: As).toArray) (frA A wr) := by
  obtain ⟨hx, hb, hml, hown, hts, hA, hK, hN⟩ := id C0
  exact va_runV (As := As) (rest := rest) C0.fix (hM H.size (frA A wr) (frA_new hP (fun q hq => hA q (Nat.le_trans hS.1 hq))) (frA_D hD)) ⟨xcB hts hcode hlink hini hd hR, hts _ (List.mem_cons_of_mem _ hin), hts _ (List.mem_cons_of_mem _ hsel)⟩ ⟨xPc.blind, hrecv, xpre (frP0 hP) hK hN⟩ rfl hn hsize hst (lv_room hW) hdg hf
theorem xciF {a : Array Value} {r : Int32} (hr : va_Run p l e R s m args below meth c H locs cells slots 0 0 (F0 m pc ls st) rest (xQi E r w1 (frA A wr) a) (frA A wr)) (hP : va_P E.1 vwCl (w0 ++ wr) H) (hS : va_S A s.heap H locs) (kk : ∀ (H1 : Heap) (locs1 : List Loc), va_P E.1 vwCl (w1 ++ wr) H1 → va_S A s.heap H1 locs1 → W p l e R s m args below meth c H1 locs1 cells slots Q (F0 m (pc + 3) ls (.int r :: rest))) : W p l e R s m args below meth c H locs cells slots Q (F0 m pc ls st) :=
  va_calli hr hS (fun q _ h => h.1) frA_A (fun r1 _ t H1 locs1 ht _ hp hB _ hk hS1 => by subst hp; exact kk H1 locs1 (frP hP hk (by rw [← ht]; exact hB)) hS1)
theorem xclF {a : Array Value} {r : Int64} (hr : va_Run p l e R s m args below meth c H locs cells slots 0 0 (F0 m pc ls st) rest (xQl E r w1 (frA A wr) a) (frA A wr)) (hP : va_P E.1 vwCl (w0 ++ wr) H) (hS : va_S A s.heap H locs) (kk : ∀ (H1 : Heap) (locs1 : List Loc), va_P E.1 vwCl (w1 ++ wr) H1 → va_S A s.heap H1 locs1 → W p l e R s m args below meth c H1 locs1 cells slots Q (F0 m (pc + 3) ls (.long r :: rest))) : W p l e R s m args below meth c H locs cells slots Q (F0 m pc ls st) :=
  va_calll hr hS (fun q _ h => h.1) frA_A (fun r1 _ t H1 locs1 ht _ hp hB _ hk hS1 => by subst hp; exact kk H1 locs1 (frP hP hk (by rw [← ht]; exact hB)) hS1)
theorem xcvF {a : Array Value} (hr : va_Run p l e R s m args below meth c H locs cells slots 0 0 (F0 m pc ls st) rest (xQv E w1 (frA A wr) a) (frA A wr)) (hP : va_P E.1 vwCl (w0 ++ wr) H) (hS : va_S A s.heap H locs) (kk : ∀ (H1 : Heap) (locs1 : List Loc), va_P E.1 vwCl (w1 ++ wr) H1 → va_S A s.heap H1 locs1 → W p l e R s m args below meth c H1 locs1 cells slots Q (F0 m (pc + 3) ls rest)) : W p l e R s m args below meth c H locs cells slots Q (F0 m pc ls st) :=
  va_callv hr hS (fun q _ h => h.1) frA_A (fun _ t H1 locs1 ht _ _ hB _ hk hS1 => kk H1 locs1 (frP hP hk (by rw [← ht]; exact hB)) hS1)
end FR
/-! the law's calls that catch -/
def ncP (U : State) : Prop := ∀ a b : Nat, 1 ≤ a → a ≤ 3 → 1 ≤ b → b ≤ 3 → a ≠ b → va_Nc (exN a) (exN b) U
theorem ncP.moved {s U : State} (hv : s.vm.Alike U.vm) (h : ncP s) : ncP U := fun a b h1 h2 h3 h4 h5 => (h a b h1 h2 h3 h4 h5).moved hv
def xPw (E : xE) (av : List Value) (w0 : va_W) (sz : Nat) (A : Nat → Prop) : Array Value → State → Prop := va_Pc av (fun U => U.heap.size = sz ∧ va_P E.1 vwCl w0 U.heap ∧ va_K E.1 vwCl (tyX E) U ∧ nwP U ∧ thP U ∧ stP U ∧ zP A U U.heap ∧ ncP U)
theorem xPw.blind {E : xE} {av : List Value} {w0 : va_W} {sz : Nat} {A : Nat → Prop} : FrameBlind (xPw E av w0 sz A) := fun _ U g mk h => ⟨h.1, h.2.1, h.2.2.1, va_K.moved (Vm.Alike.refl U.vm) h.2.2.2.1, nwP.same (s := U) (U := U.calling g mk _) rfl h.2.2.2.2.1, thP.same (s := U) (U := U.calling g mk _) rfl h.2.2.2.2.2.1, stP.same (s := U) (U := U.calling g mk _) rfl h.2.2.2.2.2.2.1, zP.moved (s := U) (U := U.calling g mk _) (Vm.Alike.refl U.vm) h.2.2.2.2.2.2.2.1, ncP.moved (s := U) (U := U.calling g mk _) (Vm.Alike.refl U.vm) h.2.2.2.2.2.2.2.2⟩
def xW (l : Launch) (E : xE) (y : MethodName) (cc : ByteArray) (n : Nat) (hh : List (Nat × Nat × Nat × Nat)) (F L : Nat) (av : List Value) (w0 : va_W) (r : Int32) (w1 : va_W) : Prop :=
  ∀ (sz : Nat) (A : Nat → Prop), (∀ q, sz ≤ q → A q) → va_D A w0 → Met l y (.codeWith y cc n (some .int) hh :: BW) ({ frames := F, cells := 1, slots := 6, locals := L }) (xPw E av w0 sz A) (xQi E r w1 A) 1 6 A
theorem xW_of {l : Launch} {E : xE} {y : MethodName} {cc : ByteArray} {n : Nat} {hh : List (Nat × Nat × Nat × Nat)} {F L : Nat} {av : List Value} {w0 w1 : va_W} {r : Int32} (hy : plainName y.cls = true) (hn : (lg_sl av).length ≤ n)
    (body : ∀ (p : Program) (e : Env) (s : State) (m : MethodId) (below : List Frame) (meth : Method) (c : Code) (A : Nat → Prop), p.tables.exec = Jvm.exec → c.code = cc → meth.sig.returnType = some .int → c.maxLocals = n → (∀ w ∈ (Cond.codeWith y cc n (some .int) hh :: BW), w.before av.toArray s = true) → s.vm.findClass y.cls = some m.cls → meth.locks = false → c.exceptionTable.toList = tableOf hh → (∀ q, s.heap.size ≤ q → A q) → va_D A w0 → va_P E.1 vwCl w0 s.heap → va_K E.1 vwCl (tyX E) s → nwP s → thP s → stP s → zP A s s.heap → ncP s → va_S A s.heap s.heap [] →
      ∀ ls : Array Slot, lv_has ls n (lv_args 0 av) → W p l e ({ frames := F, cells := 1, slots := 6, locals := L }) s m av.toArray below meth c s.heap [] 0 0 (MQ below (xQi E r w1 A) av.toArray s 1 6 A) (F0 m 0 ls [])) : xW l E y cc n hh F L av w0 r w1 := by
  intro sz A hA hD
  refine va_MetW (cc := cc) (maxL := n) (ret := some .int) (hh := hh) hy rfl ?_
  intro p e s m args below meth c s₁ B hml hv
  obtain ⟨rfl, hsz, hP, hK, hN, hT, hst, hz, hnc⟩ := hv
  subst hsz
  have hl := lv_entry av (n := n) hn
  rw [lg_entry_eq]
  have hts := atoms_spec (ws := Cond.codeWith y cc n (some .int) hh :: BW) B.pre
  exact body p e s m below meth c A B.exec B.bytes B.returns hml hts (findClass_of_methodNamed B.named) B.notSynchronized (vx_table (x := y) B (hts _ List.mem_cons_self)) hA hD hP hK hN hT hst hz hnc va_S.rf _ hl
section XW
variable {p : Program} {l : Launch} {e : Env} {R : Room} {s : State} {m : MethodId} {args : Array Value} {below : List Frame} {meth : Method} {c : Code} {H : Heap} {locs : List Loc} {cells slots : Nat} {Q : State → Prop} {cc : ByteArray} {pc : Nat} {ls : Array Slot} {st rest : List Value} {E : xE} {A : Nat → Prop} {w0 w1 wr : va_W}
variable {y y0 : MethodName} {bytes c0 : ByteArray} {maxL n0 nL F L k index : Nat} {ret r0 : Option FieldType} {own C host : String} {b : Addr} {As : List Value} {hh : List (Nat × Nat × Nat × Nat)}
theorem xw_ret (hx : p.tables.exec = Jvm.exec) (hb : c.code = cc) (hr : meth.sig.returnType = some .int) (hlocks : meth.locks = false) (hP : va_P E.1 vwCl w1 H) (hS : va_S A s.heap H locs) {v : Int32} (h1 : cells ≤ 1) (h2 : slots ≤ 6) (hdg : decode cc pc = .ok (.ireturn, 1)) : W p l e R s m args below meth c H locs cells slots (MQ below (xQi E v w1 A) args s 1 6 A) (F0 m pc ls [.int v]) :=
  W.widen h1 h2 (W.iret (v := v) hx hb hr (fun t ht _ => ⟨⟨v, (), rfl, rfl, by show va_P E.1 vwCl w1 t.heap; rw [ht]; exact hP⟩, hS.F ht⟩) hS.2.2 hdg)
theorem xptU {av : List Value} {A1 : Nat → Prop} (hP : va_P E.1 vwCl w0 H) (hK : va_K E.1 vwCl (tyX E) s) (hN : nwP s) (hT : thP s) (hst : stP s) (hz : zP A s s.heap) (hS : va_S A s.heap H locs) (hAA : ∀ q, A1 q → A q) : ∀ U : State, U.heap = H → s.WarmedH U.vm → xPt E av w0 H.size A1 av.toArray U := fun U hU hW => ⟨rfl, by rw [hU], by rw [hU]; exact hP, va_K.moved hW.alike hK, hN.moved hW, hT.moved hW.alike, hst.moved hW, by rw [hU]; exact ((hz.kept (fun q h1 h2 => hS.2.1 q h1 h2)).narrow hAA).moved hW.alike⟩
theorem xwB (hts : ∀ w ∈ (Cond.codeWith y0 c0 n0 r0 hh :: BW), w.before args s = true) (hcode : Cond.code y bytes maxL ret ∈ BW) (hlink : Cond.methodLink own index y ∈ BW) (hini : Cond.initialized y.cls ∈ BW)
    (hd : y.cls ≠ "java/lang/invoke/MethodHandle" ∧ y.cls ≠ "java/lang/invoke/VarHandle" ∧ (parseMethodDescriptor y.desc).map (fun d => d.parameters.length) = some k) (hR : F + 1 ≤ R.frames ∧ 8 + (maxL + 11) + L ≤ R.locals) :
    CallB R s args own index y bytes maxL ret (.code y bytes maxL ret :: BW) ({ frames := F, cells := 1, slots := 6, locals := L }) 1 6 k := by
  refine ⟨rfl, rfl, hR.1, hR.2, xpay hts (fun w h => List.mem_cons_of_mem _ h) hcode, List.mem_cons_self, hts _ (List.mem_cons_of_mem _ hcode), hts _ (List.mem_cons_of_mem _ hini), ⟨hd.1, hd.2.1⟩, fun sig h => ?_, hts _ (List.mem_cons_of_mem _ hlink)⟩
  have h2 := hd.2.2
  rw [h] at h2
  exact (Option.some.inj h2).symm
theorem xRunTF {Qp : (Nat → Prop) → Array Value → State → Outcome → State → Prop} {XC : (Nat → Prop) → String → State → State → Prop} (hx : p.tables.exec = Jvm.exec) (hb : c.code = cc) (hml : c.maxLocals = nL) (hown : s.vm.findClass own = some m.cls) (hts : ∀ w ∈ (Cond.codeWith y0 c0 n0 r0 hh :: BW), w.before args s = true) (hA : ∀ q, s.heap.size ≤ q → A q) (hK : va_K E.1 vwCl (tyX E) s) (hN : nwP s) (hT : thP s) (hst0 : stP s) (hz : zP A s s.heap)
    (hM : xT l E y bytes maxL ret F L (.ref b :: As) w0 Qp XC) (hcode : Cond.code y bytes maxL ret ∈ BW) (hlink : Cond.methodLink own index y ∈ BW) (hini : Cond.initialized y.cls ∈ BW) (hin : Cond.instanceMethod y ∈ BW) (hsel : Cond.selects C y y ∈ BW)
    (hd : y.cls = C ∧ y.cls ≠ "java/lang/invoke/MethodHandle" ∧ y.cls ≠ "java/lang/invoke/VarHandle" ∧ (parseMethodDescriptor y.desc).map (fun d => d.parameters.length) = some k) (hR : F + 1 ≤ R.frames ∧ 8 + (maxL + 11) + L ≤ R.locals)
    (hP : va_P E.1 vwCl (w0 ++ wr) H) (hD : va_D A (w0 ++ wr)) (hS : va_S A s.heap H locs) (hrecv : ∃ cellB : Cell, H[b]? = some cellB ∧ cellB.vm.isStatics = false ∧ s.vm.findClass C = some cellB.cls) (hn : As.length = k) (hsize : ls.size = nL) (hst : st = As.reverse ++ .ref b :: rest) (hW : (rest.map fun v => v.category).sum ≤ 8) (hdg : decode cc pc = .ok (.invokevirtual index, 3)) (hf : cells + 1 ≤ R.cells ∧ slots + 6 ≤ R.slots) :
    vx_Run p l e R s m args below meth c H locs cells slots 1 6 (F0 m pc ls st) rest (Qp (frA A wr) (Value.ref b :: As).toArray) (XC (frA A wr)) (frA A wr) :=
  vx_runV (As := As) (rest := rest) ⟨hx, hb, hml, hown, hts⟩ (hM H.size (frA A wr) (frA_new hP (fun q hq => hA q (Nat.le_trans hS.1 hq))) (frA_D hD)) ⟨xwB hts hcode hlink hini hd.2 hR, hts _ (List.mem_cons_of_mem _ hin), hts _ (List.mem_cons_of_mem _ hsel)⟩ ⟨xPt.blind, hrecv, xptU (frP0 hP) hK hN hT hst0 hz hS frA_A⟩ rfl hn hsize hst (lv_room hW) hdg hf
/-- a call that throws or not, over a part of the world: both ways -/
theorem xtciF {α β : Type} {res : β ⊕ α} {fr : α → Int32} {fw : α → va_W} {fc : β → Nat} {fx : β → va_W} {a : Array Value} (hr : vx_Run p l e R s m args below meth c H locs cells slots 1 6 (F0 m pc ls st) rest (xTi E res fr fw (frA A wr) a) (xTx E res fc fx (frA A wr)) (frA A wr)) (hP : va_P E.1 vwCl (w0 ++ wr) H) (hS : va_S A s.heap H locs)
    (kx : ∀ (z : β), res = .inl z → ∀ (ce : Cell) (q9 : Addr) (H1 : Heap) (locs1 : List Loc), va_P E.1 vwCl (fx z ++ wr) H1 → va_S A s.heap H1 locs1 → H1[q9]? = some ce → ce.vm = .none → s.vm.findClass (exN (fc z)) = some ce.cls → vx_W p l e R s m args below meth c H1 locs1 (cells + 1) (slots + 6) Q (F0 m pc ls rest) q9)
    (kk : ∀ (z : α), res = .inr z → ∀ (H1 : Heap) (locs1 : List Loc), va_P E.1 vwCl (fw z ++ wr) H1 → va_S A s.heap H1 locs1 → W p l e R s m args below meth c H1 locs1 (cells + 1) (slots + 6) Q (F0 m (pc + 3) ls (.int (fr z) :: rest))) : W p l e R s m args below meth c H locs cells slots Q (F0 m pc ls st) :=
  vx_calli hr hS (fun q _ h => h.1) frA_A (fun q _ h => h.1) (fun En ce q9 _ t H1 locs1 ht _ _ hB _ hk hS1 hce hcv hcl => by
    obtain ⟨z, hz, rfl, hPz⟩ := hB
    exact kx z hz ce q9 H1 locs1 (frP hP hk (by rw [← ht]; exact hPz)) hS1 hce hcv hcl) (fun r1 _ t H1 locs1 ht _ hp hB _ hk hS1 => by
    obtain ⟨z, hz, rfl⟩ := hp
    exact kk z hz H1 locs1 (frP hP hk (by rw [← ht]; exact hB z hz)) hS1)
theorem xtclF {α β : Type} {res : β ⊕ α} {fr : α → Int64} {fw : α → va_W} {fc : β → Nat} {fx : β → va_W} {a : Array Value} (hr : vx_Run p l e R s m args below meth c H locs cells slots 1 6 (F0 m pc ls st) rest (xTl E res fr fw (frA A wr) a) (xTx E res fc fx (frA A wr)) (frA A wr)) (hP : va_P E.1 vwCl (w0 ++ wr) H) (hS : va_S A s.heap H locs)
    (kx : ∀ (z : β), res = .inl z → ∀ (ce : Cell) (q9 : Addr) (H1 : Heap) (locs1 : List Loc), va_P E.1 vwCl (fx z ++ wr) H1 → va_S A s.heap H1 locs1 → H1[q9]? = some ce → ce.vm = .none → s.vm.findClass (exN (fc z)) = some ce.cls → vx_W p l e R s m args below meth c H1 locs1 (cells + 1) (slots + 6) Q (F0 m pc ls rest) q9)
    (kk : ∀ (z : α), res = .inr z → ∀ (H1 : Heap) (locs1 : List Loc), va_P E.1 vwCl (fw z ++ wr) H1 → va_S A s.heap H1 locs1 → W p l e R s m args below meth c H1 locs1 (cells + 1) (slots + 6) Q (F0 m (pc + 3) ls (.long (fr z) :: rest))) : W p l e R s m args below meth c H locs cells slots Q (F0 m pc ls st) :=
  vx_calll hr hS (fun q _ h => h.1) frA_A (fun q _ h => h.1) (fun En ce q9 _ t H1 locs1 ht _ _ hB _ hk hS1 hce hcv hcl => by
    obtain ⟨z, hz, rfl, hPz⟩ := hB
    exact kx z hz ce q9 H1 locs1 (frP hP hk (by rw [← ht]; exact hPz)) hS1 hce hcv hcl) (fun r1 _ t H1 locs1 ht _ hp hB _ hk hS1 => by
    obtain ⟨z, hz, rfl⟩ := hp
    exact kk z hz H1 locs1 (frP hP hk (by rw [← ht]; exact hB z hz)) hS1)
end XW
/-- the array that a law's call writes its answer to -/
abbrev oC (E : xE) (bo : Nat) (fo : Nat → Int64) : va_W := [(bo, .inl (E.2.2 3, (1, .inr (.inl fo))))]
theorem go_out (E : xE) (g : xG) (a : xA) (bo : Nat) (fo : Nat → Int64) : (wX E g a ++ oC E bo fo)[54]? = some (bo, .inl (E.2.2 3, (1, .inr (.inl fo)))) := rfl
theorem so_out (E : xE) (g : xG) (a : xA) (bo : Nat) (fo f1 : Nat → Int64) : (wX E g a ++ oC E bo fo).set 54 (bo, .inl (E.2.2 3, (1, .inr (.inl f1)))) = wX E g a ++ oC E bo f1 := rfl
theorem go_X {E : xE} {g : xG} {a : xA} {i : Nat} {q : Nat × va_E} {wr : va_W} (h : (wX E g a)[i]? = some q) : (wX E g a ++ wr)[i]? = some q := by
  rw [List.getElem?_append_left (List.getElem?_eq_some_iff.mp h).1]; exact h
theorem go_M {E : xE} {g : xG} {a : xA} {i : Nat} {q : Nat × va_E} {wr : va_W} (h : (wM E g a)[i]? = some q) : (wM E g a ++ wr)[i]? = some q := by
  rw [List.getElem?_append_left (List.getElem?_eq_some_iff.mp h).1]; exact h
