/-! Calls that throw: what stands at their start, how they throw, how they end. -/
def thN : List String := ["java/lang/RuntimeException", "java/lang/Exception"]
def exN : Nat → String := fun c => match c with | 1 => "java/lang/IllegalArgumentException" | 2 => "java/lang/IllegalStateException" | _ => "java/lang/IndexOutOfBoundsException"
def thL1 : List Cond := (vx_atS RX11 90 "java/lang/IllegalArgumentException" thN).filter (fun w => !goodWord w)
def thL2 : List Cond := (vx_atS RX11 110 "java/lang/IllegalStateException" thN).filter (fun w => !goodWord w)
def thL3 : List Cond := (vx_atS RX11 123 "java/lang/IndexOutOfBoundsException" thN).filter (fun w => !goodWord w)
def THl : List Cond := thL1 ++ (thL2 ++ thL3)
theorem thF1 : thL1.all (fun w => w.faceAtom && w.onTables) = true := by decide +kernel
theorem thF2 : thL2.all (fun w => w.faceAtom && w.onTables) = true := by decide +kernel
theorem thF3 : thL3.all (fun w => w.faceAtom && w.onTables) = true := by decide +kernel
theorem THl_face : ∀ w ∈ THl, w.faceAtom = true ∧ w.onTables = true := by
  intro w hw
  have h : (w.faceAtom && w.onTables) = true := by
    rcases List.mem_append.mp hw with h | h
    · exact List.all_eq_true.mp thF1 w h
    · rcases List.mem_append.mp h with h | h
      · exact List.all_eq_true.mp thF2 w h
      · exact List.all_eq_true.mp thF3 w h
  simpa [Bool.and_eq_true] using h
def thP (U : State) : Prop := ∀ w ∈ THl, va_Nw w U
theorem thP.moved {s U : State} (hv : s.vm.Alike U.vm) (h : thP s) : thP U := by
  intro w hw
  obtain ⟨h1, h2⟩ := THl_face w hw
  exact va_Nw.same (u := s.setVm U.vm) (U := U) h2 rfl (Cond.faceAtom_setVm hv w h1 (h w hw))
theorem thP.same {s U : State} (hv : s.vm = U.vm) (h : thP s) : thP U := fun w hw => va_Nw.same (THl_face w hw).2 hv (h w hw)
def STl : List (Nat × String) := [(88, "there are 2 or 3 values"), (101, "no relation has so many places"), (108, "there are 8 relations"), (121, "no such relation"), (131, "no such tuple"), (149, "what is 0, 1 or 2"), (151, "an operation has 1 to 3 places"), (154, "there are 6 operations"), (158, "what is LEAST to CYCLE"), (167, "no such operation"), (174, "no such point"), (176, "no such value"), (188, "no such operation or relation"), (226, "places are 1 or 2"), (243, "a kind is CONSTANT to SUM"), (251, "the relation has too many tuples"), (256, "1 to 8 characters are typed"), (266, "a character cannot be on the tape"), (271, "the tape would have more than 60 characters"), (280, "the tape is no formula; fault() tells where"), (288, "an instance has 1 to 6 variables"), (299, "no such variable"), (301, "each place has a variable, and nothing else has one"), (303, "there are 16 constraints"), (321, "both variables are the same")]
theorem st88 : ((88, "there are 2 or 3 values") : Nat × String) ∈ STl := List.mem_of_getElem? (i := 0) rfl
theorem st101 : ((101, "no relation has so many places") : Nat × String) ∈ STl := List.mem_of_getElem? (i := 1) rfl
theorem st108 : ((108, "there are 8 relations") : Nat × String) ∈ STl := List.mem_of_getElem? (i := 2) rfl
theorem st121 : ((121, "no such relation") : Nat × String) ∈ STl := List.mem_of_getElem? (i := 3) rfl
theorem st131 : ((131, "no such tuple") : Nat × String) ∈ STl := List.mem_of_getElem? (i := 4) rfl
theorem st149 : ((149, "what is 0, 1 or 2") : Nat × String) ∈ STl := List.mem_of_getElem? (i := 5) rfl
theorem st151 : ((151, "an operation has 1 to 3 places") : Nat × String) ∈ STl := List.mem_of_getElem? (i := 6) rfl
theorem st154 : ((154, "there are 6 operations") : Nat × String) ∈ STl := List.mem_of_getElem? (i := 7) rfl
theorem st158 : ((158, "what is LEAST to CYCLE") : Nat × String) ∈ STl := List.mem_of_getElem? (i := 8) rfl
theorem st167 : ((167, "no such operation") : Nat × String) ∈ STl := List.mem_of_getElem? (i := 9) rfl
theorem st174 : ((174, "no such point") : Nat × String) ∈ STl := List.mem_of_getElem? (i := 10) rfl
theorem st176 : ((176, "no such value") : Nat × String) ∈ STl := List.mem_of_getElem? (i := 11) rfl
theorem st188 : ((188, "no such operation or relation") : Nat × String) ∈ STl := List.mem_of_getElem? (i := 12) rfl
theorem st226 : ((226, "places are 1 or 2") : Nat × String) ∈ STl := List.mem_of_getElem? (i := 13) rfl
theorem st243 : ((243, "a kind is CONSTANT to SUM") : Nat × String) ∈ STl := List.mem_of_getElem? (i := 14) rfl
theorem st251 : ((251, "the relation has too many tuples") : Nat × String) ∈ STl := List.mem_of_getElem? (i := 15) rfl
theorem st256 : ((256, "1 to 8 characters are typed") : Nat × String) ∈ STl := List.mem_of_getElem? (i := 16) rfl
theorem st266 : ((266, "a character cannot be on the tape") : Nat × String) ∈ STl := List.mem_of_getElem? (i := 17) rfl
theorem st271 : ((271, "the tape would have more than 60 characters") : Nat × String) ∈ STl := List.mem_of_getElem? (i := 18) rfl
theorem st280 : ((280, "the tape is no formula; fault() tells where") : Nat × String) ∈ STl := List.mem_of_getElem? (i := 19) rfl
theorem st288 : ((288, "an instance has 1 to 6 variables") : Nat × String) ∈ STl := List.mem_of_getElem? (i := 20) rfl
theorem st299 : ((299, "no such variable") : Nat × String) ∈ STl := List.mem_of_getElem? (i := 21) rfl
theorem st301 : ((301, "each place has a variable, and nothing else has one") : Nat × String) ∈ STl := List.mem_of_getElem? (i := 22) rfl
theorem st303 : ((303, "there are 16 constraints") : Nat × String) ∈ STl := List.mem_of_getElem? (i := 23) rfl
theorem st321 : ((321, "both variables are the same") : Nat × String) ∈ STl := List.mem_of_getElem? (i := 24) rfl
def stP (U : State) : Prop := ∀ q ∈ STl, ∃ sa : Nat, vk_R RX11 q.1 q.2 sa U
theorem stP.moved {s U : State} (hW : s.WarmedH U.vm) (h : stP s) : stP U := fun q hq => by
  obtain ⟨sa, h1⟩ := h q hq
  exact ⟨sa, vk_R.warm hW h1⟩
theorem stP.same {s U : State} (hv : U.vm = s.vm) (h : stP s) : stP U := fun q hq => by
  obtain ⟨sa, h1⟩ := h q hq
  exact ⟨sa, vk_R.same hv h1⟩
def zP (A : Nat → Prop) (U : State) (H : Heap) : Prop := vx_Zq Bundle.tN "UNASSIGNED_STACK" Bundle.steD A U H ∧ vx_Zq Bundle.tN "SUPPRESSED_SENTINEL" Bundle.listD A U H
theorem zP.moved {A : Nat → Prop} {s U : State} {H : Heap} (hv : s.vm.Alike U.vm) (h : zP A s H) : zP A U H := ⟨vx_Zq.moved hv h.1, vx_Zq.moved hv h.2⟩
theorem zP.kept {A : Nat → Prop} {U : State} {H H1 : Heap} (h : zP A U H) (hq : ∀ a : Nat, a < H.size → ¬ A a → H1[a]? = H[a]?) : zP A U H1 := ⟨h.1.kept hq, h.2.kept hq⟩
theorem zP.narrow {A B : Nat → Prop} {U : State} {H : Heap} (h : zP A U H) (hAB : ∀ q, B q → A q) : zP B U H := ⟨h.1.narrow hAB, h.2.narrow hAB⟩
def xPt (E : xE) (av : List Value) (w0 : va_W) (sz : Nat) (A : Nat → Prop) : Array Value → State → Prop := va_Pc av (fun U => U.heap.size = sz ∧ va_P E.1 vwCl w0 U.heap ∧ va_K E.1 vwCl (tyX E) U ∧ nwP U ∧ thP U ∧ stP U ∧ zP A U U.heap)
theorem xPt.blind {E : xE} {av : List Value} {w0 : va_W} {sz : Nat} {A : Nat → Prop} : FrameBlind (xPt E av w0 sz A) := fun _ U g mk h => ⟨h.1, h.2.1, h.2.2.1, va_K.moved (Vm.Alike.refl U.vm) h.2.2.2.1, nwP.same (s := U) (U := U.calling g mk _) rfl h.2.2.2.2.1, thP.same (s := U) (U := U.calling g mk _) rfl h.2.2.2.2.2.1, stP.same (s := U) (U := U.calling g mk _) rfl h.2.2.2.2.2.2.1, zP.moved (s := U) (U := U.calling g mk _) (Vm.Alike.refl U.vm) h.2.2.2.2.2.2.2⟩
def xT (l : Launch) (E : xE) (y : MethodName) (cc : ByteArray) (n : Nat) (ret : Option FieldType) (F L : Nat) (av : List Value) (w0 : va_W) (Qp : (Nat → Prop) → Array Value → State → Outcome → State → Prop) (XC : (Nat → Prop) → String → State → State → Prop) : Prop :=
  ∀ (sz : Nat) (A : Nat → Prop), (∀ q, sz ≤ q → A q) → va_D A w0 → vx_Met l y (.code y cc n ret :: BW) ({ frames := F, cells := 1, slots := 6, locals := L }) (xPt E av w0 sz A) (Qp A) (XC A) 1 6 A
/-- where it returns, with the world behind it; where it throws -/
def xTi {α β : Type} (E : xE) (res : β ⊕ α) (fr : α → Int32) (fw : α → va_W) (A : Nat → Prop) : Array Value → State → Outcome → State → Prop := va_Qi (fun (r1 : Int32) (_ : Unit) => ∃ z, res = .inr z ∧ r1 = fr z) (fun _ t => ∀ z, res = .inr z → va_P E.1 vwCl (fw z) t.heap) A
def xTl {α β : Type} (E : xE) (res : β ⊕ α) (fr : α → Int64) (fw : α → va_W) (A : Nat → Prop) : Array Value → State → Outcome → State → Prop := va_Ql (fun (r1 : Int64) (_ : Unit) => ∃ z, res = .inr z ∧ r1 = fr z) (fun _ t => ∀ z, res = .inr z → va_P E.1 vwCl (fw z) t.heap) A
def xTx {α β : Type} (E : xE) (res : β ⊕ α) (fc : β → Nat) (fx : β → va_W) (A : Nat → Prop) : String → State → State → Prop := vx_X (fun (_ : Unit) => True) (fun En _ t => ∃ z, res = .inl z ∧ En = exN (fc z) ∧ va_P E.1 vwCl (fx z) t.heap) A
theorem xT_of {l : Launch} {E : xE} {y : MethodName} {cc : ByteArray} {n : Nat} {ret : Option FieldType} {F L : Nat} {av : List Value} {w0 : va_W} {Qp : (Nat → Prop) → Array Value → State → Outcome → State → Prop} {XC : (Nat → Prop) → String → State → State → Prop} (hy : plainName y.cls = true) (hn : (lg_sl av).length ≤ n)
    (body : ∀ (p : Program) (e : Env) (s : State) (m : MethodId) (below : List Frame) (meth : Method) (c : Code) (A : Nat → Prop), p.tables.exec = Jvm.exec → c.code = cc → meth.sig.returnType = ret → c.maxLocals = n → (∀ w ∈ (Cond.code y cc n ret :: BW), w.before av.toArray s = true) → s.vm.findClass y.cls = some m.cls → meth.locks = false → (∀ x ∈ c.exceptionTable.toList, False) → (∀ q, s.heap.size ≤ q → A q) → va_D A w0 → va_P E.1 vwCl w0 s.heap → va_K E.1 vwCl (tyX E) s → nwP s → thP s → stP s → zP A s s.heap → va_S A s.heap s.heap [] →
      ∀ ls : Array Slot, lv_has ls n (lv_args 0 av) → W p l e ({ frames := F, cells := 1, slots := 6, locals := L }) s m av.toArray below meth c s.heap [] 0 0 (vx_MQ below (Qp A) (XC A) av.toArray s 1 6 A) (F0 m 0 ls [])) : xT l E y cc n ret F L av w0 Qp XC := by
  intro sz A hA hD
  refine vx_ofW (cc := cc) (maxL := n) (ret := ret) hy rfl ?_
  intro p e s m args below meth c s₁ B hml hno hv
  obtain ⟨rfl, hsz, hP, hK, hN, hT, hst, hz⟩ := hv
  subst hsz
  have hl := lv_entry av (n := n) hn
  rw [lg_entry_eq]
  exact body p e s m below meth c A B.exec B.bytes B.returns hml (atoms_spec (ws := Cond.code y cc n ret :: BW) B.pre) (findClass_of_methodNamed B.named) B.notSynchronized hno hA hD hP hK hN hT hst hz va_S.rf _ hl
theorem th_good1 : ∀ w ∈ (Cond.classLink RX11 86 "java/lang/IllegalArgumentException" :: Cond.initialized "java/lang/IllegalArgumentException" :: vx_atS RX11 90 "java/lang/IllegalArgumentException" thN), vx_ot w = true := by
  have h : (Cond.classLink RX11 86 "java/lang/IllegalArgumentException" :: Cond.initialized "java/lang/IllegalArgumentException" :: vx_atS RX11 90 "java/lang/IllegalArgumentException" thN).all vx_ot = true := by decide +kernel
  exact fun w hw => List.all_eq_true.mp h w hw
theorem th_good2 : ∀ w ∈ (Cond.classLink RX11 106 "java/lang/IllegalStateException" :: Cond.initialized "java/lang/IllegalStateException" :: vx_atS RX11 110 "java/lang/IllegalStateException" thN), vx_ot w = true := by
  have h : (Cond.classLink RX11 106 "java/lang/IllegalStateException" :: Cond.initialized "java/lang/IllegalStateException" :: vx_atS RX11 110 "java/lang/IllegalStateException" thN).all vx_ot = true := by decide +kernel
  exact fun w hw => List.all_eq_true.mp h w hw
theorem th_good3 : ∀ w ∈ (Cond.classLink RX11 119 "java/lang/IndexOutOfBoundsException" :: Cond.initialized "java/lang/IndexOutOfBoundsException" :: vx_atS RX11 123 "java/lang/IndexOutOfBoundsException" thN), vx_ot w = true := by
  have h : (Cond.classLink RX11 119 "java/lang/IndexOutOfBoundsException" :: Cond.initialized "java/lang/IndexOutOfBoundsException" :: vx_atS RX11 123 "java/lang/IndexOutOfBoundsException" thN).all vx_ot = true := by decide +kernel
  exact fun w hw => List.all_eq_true.mp h w hw
theorem in_thL1 : ∀ w ∈ thL1, w ∈ THl := fun w h => List.mem_append_left _ h
theorem in_thL2 : ∀ w ∈ thL2, w ∈ THl := fun w h => List.mem_append_right _ (List.mem_append_left _ h)
theorem in_thL3 : ∀ w ∈ thL3, w ∈ THl := fun w h => List.mem_append_right _ (List.mem_append_right _ h)
section XT
variable {p : Program} {l : Launch} {e : Env} {F L : Nat} {s : State} {m : MethodId} {args : Array Value} {below : List Frame} {meth : Method} {c : Code} {H : Heap} {locs : List Loc} {cc : ByteArray} {pc : Nat} {ls : Array Slot} {E : xE} {A : Nat → Prop} {α β : Type} {res : β ⊕ α} {XC : String → State → State → Prop}
theorem xti_ret {x : α} (hx : p.tables.exec = Jvm.exec) (hb : c.code = cc) (hr : meth.sig.returnType = some .int) (hlocks : meth.locks = false) (he : .inr x = res) {fr : α → Int32} {fw : α → va_W} (hP : va_P E.1 vwCl (fw x) H) (hS : va_S A s.heap H locs) (hdg : decode cc pc = .ok (.ireturn, 1)) : W p l e ({ frames := F, cells := 1, slots := 6, locals := L }) s m args below meth c H locs 0 0 (vx_MQ below (xTi E res fr fw A) XC args s 1 6 A) (F0 m pc ls [.int (fr x)]) := by
  subst he
  exact W.widen (k := 1) (n := 6) (by decide) (by decide) (vx_ret (W.iret (v := fr x) hx hb hr (fun t ht _ => ⟨⟨fr x, (), rfl, ⟨x, rfl, rfl⟩, fun z hz => by cases hz; show va_P E.1 vwCl (fw x) t.heap; rw [ht]; exact hP⟩, hS.F ht⟩) hS.2.2 hdg))
theorem xtz_ret {x : α} {ty : FieldType} (hx : p.tables.exec = Jvm.exec) (hb : c.code = cc) (hr : meth.sig.returnType = some ty) (hlocks : meth.locks = false) (he : .inr x = res) {fr : α → Int32} {fw : α → va_W} (hn : narrow ty (.int (fr x)) = .int (fr x)) (hP : va_P E.1 vwCl (fw x) H) (hS : va_S A s.heap H locs) (hdg : decode cc pc = .ok (.ireturn, 1)) : W p l e ({ frames := F, cells := 1, slots := 6, locals := L }) s m args below meth c H locs 0 0 (vx_MQ below (xTi E res fr fw A) XC args s 1 6 A) (F0 m pc ls [.int (fr x)]) := by
  subst he
  exact W.widen (k := 1) (n := 6) (by decide) (by decide) (vx_ret (W.zret (v := fr x) hx hb hr hn (fun t ht _ => ⟨⟨fr x, (), rfl, ⟨x, rfl, rfl⟩, fun z hz => by cases hz; show va_P E.1 vwCl (fw x) t.heap; rw [ht]; exact hP⟩, hS.F ht⟩) hS.2.2 hdg))
theorem xtl_ret {x : α} (hx : p.tables.exec = Jvm.exec) (hb : c.code = cc) (hr : meth.sig.returnType = some .long) (hlocks : meth.locks = false) (he : .inr x = res) {fr : α → Int64} {fw : α → va_W} (hP : va_P E.1 vwCl (fw x) H) (hS : va_S A s.heap H locs) (hdg : decode cc pc = .ok (.lreturn, 1)) : W p l e ({ frames := F, cells := 1, slots := 6, locals := L }) s m args below meth c H locs 0 0 (vx_MQ below (xTl E res fr fw A) XC args s 1 6 A) (F0 m pc ls [.long (fr x)]) := by
  subst he
  exact W.widen (k := 1) (n := 6) (by decide) (by decide) (vx_ret (W.lret (v := fr x) hx hb hr (fun t ht _ => ⟨⟨fr x, (), rfl, ⟨x, rfl, rfl⟩, fun z hz => by cases hz; show va_P E.1 vwCl (fw x) t.heap; rw [ht]; exact hP⟩, hS.F ht⟩) hS.2.2 hdg))
variable {Qc : Array Value → State → Outcome → State → Prop} {rest : List Value}
theorem xt_thrX {x : β} {fc : β → Nat} {fx : β → va_W} {cls : String} (he : .inl x = res) (hc : exN (fc x) = cls) (hP : va_P E.1 vwCl (fx x) H) (hS : va_S A s.heap H locs) : ∀ t : State, s.vm.Alike t.vm → H.size ≤ t.heap.size → (∀ q : Nat, q < H.size → t.heap[q]? = H[q]?) → xTx E res fc fx A cls s t := by
  intro t _ hsz hq
  subst he; subst hc
  exact ⟨(), trivial, ⟨x, rfl, rfl, hP.kept (fun k q hk => hq q.1 (hP k q hk).lt)⟩, Nat.le_trans hS.1 hsz, fun q h1 h2 => by rw [hq q (Nat.lt_of_lt_of_le h1 hS.1)]; exact hS.2.1 q h1 h2⟩
theorem xt_thr1 {x : β} {fc : β → Nat} {fx : β → va_W} {text : String} {is : Nat} (hx : p.tables.exec = Jvm.exec) (hb : c.code = cc) (hl : l.stackTraces = false) (hown : s.vm.findClass RX11 = some m.cls) (hw : ∀ w ∈ BW, w.before args s = true) (hT : thP s) (hst : stP s) (hz : zP A s s.heap) (hno : ∀ x ∈ c.exceptionTable.toList, False) (hlocks : meth.locks = false) (hsize : ls.size = c.maxLocals) (hs : (is, text) ∈ STl) (he : .inl x = res) (hc : exN (fc x) = "java/lang/IllegalArgumentException") (hP : va_P E.1 vwCl (fx x) H) (hS : va_S A s.heap H locs) (hF : 6 ≤ F) (hL : 90 ≤ L) (hW : (rest.map fun v => v.category).sum ≤ 8)
    (d0 : decode cc pc = .ok (.new 86, 3)) (d3 : decode cc (pc + 3) = .ok (.dup, 1)) (d4 : decode cc (pc + 4) = .ok (.ldc is, 2)) (d6 : decode cc (pc + 6) = .ok (.invokespecial 90, 3)) (d9 : decode cc (pc + 9) = .ok (.athrow, 1)) :
    W p l e ({ frames := F, cells := 1, slots := 6, locals := L }) s m args below meth c H locs 0 0 (vx_MQ below Qc (xTx E res fc fx A) args s 1 6 A) (F0 m pc ls rest) := by
  obtain ⟨sa, hsa⟩ := hst _ hs
  refine vx_throwS (own := RX11) (cls := "java/lang/IllegalArgumentException") (text := text) (names := thN) (ik := 86) (is := is) (ic := 90) (sa := sa) (A := A) hx hb hl hown (by decide +kernel) (by decide +kernel) (hw _ bw595) (hw _ bw596) hsa ?_ th_good1 hz.1 hz.2 hS hsize d0 d3 d4 d6 d9 (fun x hx => (hno x hx).elim) (Nat.lt_of_lt_of_le (by decide) hF) (Nat.le_trans (Nat.add_le_add hW (by decide : 13 * (thN.length + 1) + 43 ≤ 82)) hL) (Nat.le_refl _) (Nat.le_refl _) hlocks (xt_thrX he hc hP hS) hS.2.2 (Nat.le_refl _) (Nat.le_refl _)
  exact vx_hat (B := thL1) (fun w h => hw w (in_BWt0 w h)) (fun w h => h) (fun w h => va_Nw.use (THl_face w (in_thL1 w h)).2 (hT w (in_thL1 w h)))
theorem xt_thr1W {x : β} {fc : β → Nat} {fx : β → va_W} {text : String} {is : Nat} (hx : p.tables.exec = Jvm.exec) (hb : c.code = cc) (hl : l.stackTraces = false) (hown : s.vm.findClass RX11 = some m.cls) (hw : ∀ w ∈ BW, w.before args s = true) (hT : thP s) (hst : stP s) (hz : zP A s s.heap) (hno : ∀ x ∈ c.exceptionTable.toList, False) (hlocks : meth.locks = false) (hsize : ls.size = c.maxLocals) (hs : (is, text) ∈ STl) (he : .inl x = res) (hc : exN (fc x) = "java/lang/IllegalArgumentException") (hP : va_P E.1 vwCl (fx x) H) (hS : va_S A s.heap H locs) (hF : 6 ≤ F) (hL : 90 ≤ L) (hW : (rest.map fun v => v.category).sum ≤ 8)
    (d0 : decode cc pc = .ok (.new 86, 3)) (d3 : decode cc (pc + 3) = .ok (.dup, 1)) (d4 : decode cc (pc + 4) = .ok (.ldc_w is, 3)) (d6 : decode cc (pc + 7) = .ok (.invokespecial 90, 3)) (d9 : decode cc (pc + 10) = .ok (.athrow, 1)) :
    W p l e ({ frames := F, cells := 1, slots := 6, locals := L }) s m args below meth c H locs 0 0 (vx_MQ below Qc (xTx E res fc fx A) args s 1 6 A) (F0 m pc ls rest) := by
  obtain ⟨sa, hsa⟩ := hst _ hs
  refine vx_throwSW (own := RX11) (cls := "java/lang/IllegalArgumentException") (text := text) (names := thN) (ik := 86) (is := is) (ic := 90) (sa := sa) (A := A) hx hb hl hown (by decide +kernel) (by decide +kernel) (hw _ bw595) (hw _ bw596) hsa ?_ th_good1 hz.1 hz.2 hS hsize d0 d3 d4 d6 d9 (fun x hx => (hno x hx).elim) (Nat.lt_of_lt_of_le (by decide) hF) (Nat.le_trans (Nat.add_le_add hW (by decide : 13 * (thN.length + 1) + 43 ≤ 82)) hL) (Nat.le_refl _) (Nat.le_refl _) hlocks (xt_thrX he hc hP hS) hS.2.2 (Nat.le_refl _) (Nat.le_refl _)
  exact vx_hat (B := thL1) (fun w h => hw w (in_BWt0 w h)) (fun w h => h) (fun w h => va_Nw.use (THl_face w (in_thL1 w h)).2 (hT w (in_thL1 w h)))
theorem xt_thr2 {x : β} {fc : β → Nat} {fx : β → va_W} {text : String} {is : Nat} (hx : p.tables.exec = Jvm.exec) (hb : c.code = cc) (hl : l.stackTraces = false) (hown : s.vm.findClass RX11 = some m.cls) (hw : ∀ w ∈ BW, w.before args s = true) (hT : thP s) (hst : stP s) (hz : zP A s s.heap) (hno : ∀ x ∈ c.exceptionTable.toList, False) (hlocks : meth.locks = false) (hsize : ls.size = c.maxLocals) (hs : (is, text) ∈ STl) (he : .inl x = res) (hc : exN (fc x) = "java/lang/IllegalStateException") (hP : va_P E.1 vwCl (fx x) H) (hS : va_S A s.heap H locs) (hF : 6 ≤ F) (hL : 90 ≤ L) (hW : (rest.map fun v => v.category).sum ≤ 8)
    (d0 : decode cc pc = .ok (.new 106, 3)) (d3 : decode cc (pc + 3) = .ok (.dup, 1)) (d4 : decode cc (pc + 4) = .ok (.ldc is, 2)) (d6 : decode cc (pc + 6) = .ok (.invokespecial 110, 3)) (d9 : decode cc (pc + 9) = .ok (.athrow, 1)) :
    W p l e ({ frames := F, cells := 1, slots := 6, locals := L }) s m args below meth c H locs 0 0 (vx_MQ below Qc (xTx E res fc fx A) args s 1 6 A) (F0 m pc ls rest) := by
  obtain ⟨sa, hsa⟩ := hst _ hs
  refine vx_throwS (own := RX11) (cls := "java/lang/IllegalStateException") (text := text) (names := thN) (ik := 106) (is := is) (ic := 110) (sa := sa) (A := A) hx hb hl hown (by decide +kernel) (by decide +kernel) (hw _ bw600) (hw _ bw601) hsa ?_ th_good2 hz.1 hz.2 hS hsize d0 d3 d4 d6 d9 (fun x hx => (hno x hx).elim) (Nat.lt_of_lt_of_le (by decide) hF) (Nat.le_trans (Nat.add_le_add hW (by decide : 13 * (thN.length + 1) + 43 ≤ 82)) hL) (Nat.le_refl _) (Nat.le_refl _) hlocks (xt_thrX he hc hP hS) hS.2.2 (Nat.le_refl _) (Nat.le_refl _)
  exact vx_hat (B := thL2) (fun w h => hw w (in_BWt1 w h)) (fun w h => h) (fun w h => va_Nw.use (THl_face w (in_thL2 w h)).2 (hT w (in_thL2 w h)))
theorem xt_thr2W {x : β} {fc : β → Nat} {fx : β → va_W} {text : String} {is : Nat} (hx : p.tables.exec = Jvm.exec) (hb : c.code = cc) (hl : l.stackTraces = false) (hown : s.vm.findClass RX11 = some m.cls) (hw : ∀ w ∈ BW, w.before args s = true) (hT : thP s) (hst : stP s) (hz : zP A s s.heap) (hno : ∀ x ∈ c.exceptionTable.toList, False) (hlocks : meth.locks = false) (hsize : ls.size = c.maxLocals) (hs : (is, text) ∈ STl) (he : .inl x = res) (hc : exN (fc x) = "java/lang/IllegalStateException") (hP : va_P E.1 vwCl (fx x) H) (hS : va_S A s.heap H locs) (hF : 6 ≤ F) (hL : 90 ≤ L) (hW : (rest.map fun v => v.category).sum ≤ 8)
    (d0 : decode cc pc = .ok (.new 106, 3)) (d3 : decode cc (pc + 3) = .ok (.dup, 1)) (d4 : decode cc (pc + 4) = .ok (.ldc_w is, 3)) (d6 : decode cc (pc + 7) = .ok (.invokespecial 110, 3)) (d9 : decode cc (pc + 10) = .ok (.athrow, 1)) :
    W p l e ({ frames := F, cells := 1, slots := 6, locals := L }) s m args below meth c H locs 0 0 (vx_MQ below Qc (xTx E res fc fx A) args s 1 6 A) (F0 m pc ls rest) := by
  obtain ⟨sa, hsa⟩ := hst _ hs
  refine vx_throwSW (own := RX11) (cls := "java/lang/IllegalStateException") (text := text) (names := thN) (ik := 106) (is := is) (ic := 110) (sa := sa) (A := A) hx hb hl hown (by decide +kernel) (by decide +kernel) (hw _ bw600) (hw _ bw601) hsa ?_ th_good2 hz.1 hz.2 hS hsize d0 d3 d4 d6 d9 (fun x hx => (hno x hx).elim) (Nat.lt_of_lt_of_le (by decide) hF) (Nat.le_trans (Nat.add_le_add hW (by decide : 13 * (thN.length + 1) + 43 ≤ 82)) hL) (Nat.le_refl _) (Nat.le_refl _) hlocks (xt_thrX he hc hP hS) hS.2.2 (Nat.le_refl _) (Nat.le_refl _)
  exact vx_hat (B := thL2) (fun w h => hw w (in_BWt1 w h)) (fun w h => h) (fun w h => va_Nw.use (THl_face w (in_thL2 w h)).2 (hT w (in_thL2 w h)))
theorem xt_thr3 {x : β} {fc : β → Nat} {fx : β → va_W} {text : String} {is : Nat} (hx : p.tables.exec = Jvm.exec) (hb : c.code = cc) (hl : l.stackTraces = false) (hown : s.vm.findClass RX11 = some m.cls) (hw : ∀ w ∈ BW, w.before args s = true) (hT : thP s) (hst : stP s) (hz : zP A s s.heap) (hno : ∀ x ∈ c.exceptionTable.toList, False) (hlocks : meth.locks = false) (hsize : ls.size = c.maxLocals) (hs : (is, text) ∈ STl) (he : .inl x = res) (hc : exN (fc x) = "java/lang/IndexOutOfBoundsException") (hP : va_P E.1 vwCl (fx x) H) (hS : va_S A s.heap H locs) (hF : 6 ≤ F) (hL : 90 ≤ L) (hW : (rest.map fun v => v.category).sum ≤ 8)
    (d0 : decode cc pc = .ok (.new 119, 3)) (d3 : decode cc (pc + 3) = .ok (.dup, 1)) (d4 : decode cc (pc + 4) = .ok (.ldc is, 2)) (d6 : decode cc (pc + 6) = .ok (.invokespecial 123, 3)) (d9 : decode cc (pc + 9) = .ok (.athrow, 1)) :
    W p l e ({ frames := F, cells := 1, slots := 6, locals := L }) s m args below meth c H locs 0 0 (vx_MQ below Qc (xTx E res fc fx A) args s 1 6 A) (F0 m pc ls rest) := by
  obtain ⟨sa, hsa⟩ := hst _ hs
  refine vx_throwS (own := RX11) (cls := "java/lang/IndexOutOfBoundsException") (text := text) (names := thN) (ik := 119) (is := is) (ic := 123) (sa := sa) (A := A) hx hb hl hown (by decide +kernel) (by decide +kernel) (hw _ bw607) (hw _ bw608) hsa ?_ th_good3 hz.1 hz.2 hS hsize d0 d3 d4 d6 d9 (fun x hx => (hno x hx).elim) (Nat.lt_of_lt_of_le (by decide) hF) (Nat.le_trans (Nat.add_le_add hW (by decide : 13 * (thN.length + 1) + 43 ≤ 82)) hL) (Nat.le_refl _) (Nat.le_refl _) hlocks (xt_thrX he hc hP hS) hS.2.2 (Nat.le_refl _) (Nat.le_refl _)
  exact vx_hat (B := thL3) (fun w h => hw w (in_BWt2 w h)) (fun w h => h) (fun w h => va_Nw.use (THl_face w (in_thL3 w h)).2 (hT w (in_thL3 w h)))
theorem xt_thr3W {x : β} {fc : β → Nat} {fx : β → va_W} {text : String} {is : Nat} (hx : p.tables.exec = Jvm.exec) (hb : c.code = cc) (hl : l.stackTraces = false) (hown : s.vm.findClass RX11 = some m.cls) (hw : ∀ w ∈ BW, w.before args s = true) (hT : thP s) (hst : stP s) (hz : zP A s s.heap) (hno : ∀ x ∈ c.exceptionTable.toList, False) (hlocks : meth.locks = false) (hsize : ls.size = c.maxLocals) (hs : (is, text) ∈ STl) (he : .inl x = res) (hc : exN (fc x) = "java/lang/IndexOutOfBoundsException") (hP : va_P E.1 vwCl (fx x) H) (hS : va_S A s.heap H locs) (hF : 6 ≤ F) (hL : 90 ≤ L) (hW : (rest.map fun v => v.category).sum ≤ 8)
    (d0 : decode cc pc = .ok (.new 119, 3)) (d3 : decode cc (pc + 3) = .ok (.dup, 1)) (d4 : decode cc (pc + 4) = .ok (.ldc_w is, 3)) (d6 : decode cc (pc + 7) = .ok (.invokespecial 123, 3)) (d9 : decode cc (pc + 10) = .ok (.athrow, 1)) :
    W p l e ({ frames := F, cells := 1, slots := 6, locals := L }) s m args below meth c H locs 0 0 (vx_MQ below Qc (xTx E res fc fx A) args s 1 6 A) (F0 m pc ls rest) := by
  obtain ⟨sa, hsa⟩ := hst _ hs
  refine vx_throwSW (own := RX11) (cls := "java/lang/IndexOutOfBoundsException") (text := text) (names := thN) (ik := 119) (is := is) (ic := 123) (sa := sa) (A := A) hx hb hl hown (by decide +kernel) (by decide +kernel) (hw _ bw607) (hw _ bw608) hsa ?_ th_good3 hz.1 hz.2 hS hsize d0 d3 d4 d6 d9 (fun x hx => (hno x hx).elim) (Nat.lt_of_lt_of_le (by decide) hF) (Nat.le_trans (Nat.add_le_add hW (by decide : 13 * (thN.length + 1) + 43 ≤ 82)) hL) (Nat.le_refl _) (Nat.le_refl _) hlocks (xt_thrX he hc hP hS) hS.2.2 (Nat.le_refl _) (Nat.le_refl _)
  exact vx_hat (B := thL3) (fun w h => hw w (in_BWt2 w h)) (fun w h => h) (fun w h => va_Nw.use (THl_face w (in_thL3 w h)).2 (hT w (in_thL3 w h)))
end XT
