/-! Contracts over the two worlds: what a method owes, its start, its ends, its calls. -/
def NWl : List Cond := [.methodLinkNest RX11 11 yX4_init RX11, .methodLinkNest RX11 52 yX9_init RX11, .methodLinkNest RX0 26 yX11_isIn RX11, .methodLinkNest RX0 36 yX11_put RX11, .methodLinkNest RX0 46 yX11_at RX11, .methodLinkNest RX1 75 yX11_at RX11, .methodLinkNest RX1 85 yX11_put RX11, .methodLinkNest RX2 45 yX11_put RX11, .methodLinkNest RX2 68 yX11_at RX11, .methodLinkNest RX2 95 yX11_isIn RX11, .methodLinkNest RX3 143 yX11_isIn RX11, .methodLinkNest RX4 26 yX11_at RX11, .methodLinkNest RX5 63 yX11_at RX11, .methodLinkNest RX5 67 yX11_put RX11, .methodLinkNest RX6 87 yX11_put RX11, .methodLinkNest RX6 94 yX11_isIn RX11, .methodLinkNest RX6 98 yX11_at RX11, .methodLinkNest RX7 34 yX11_at RX11, .methodLinkNest RX7 38 yX11_put RX11, .methodLinkNest RX7 68 yX11_isIn RX11, .methodLinkNest RX8 119 yX11_isIn RX11, .methodLinkNest RX8 68 yX11_at RX11, .methodLinkNest RX8 72 yX11_put RX11, .methodLinkNest RX10 26 yX11_put RX11, .methodLinkNest RX10 35 yX11_at RX11]
theorem nw0 : (.methodLinkNest RX11 11 yX4_init RX11 : Cond) ∈ NWl := List.mem_of_getElem? (i := 0) rfl
theorem nw1 : (.methodLinkNest RX11 52 yX9_init RX11 : Cond) ∈ NWl := List.mem_of_getElem? (i := 1) rfl
theorem nw2 : (.methodLinkNest RX0 26 yX11_isIn RX11 : Cond) ∈ NWl := List.mem_of_getElem? (i := 2) rfl
theorem nw3 : (.methodLinkNest RX0 36 yX11_put RX11 : Cond) ∈ NWl := List.mem_of_getElem? (i := 3) rfl
theorem nw4 : (.methodLinkNest RX0 46 yX11_at RX11 : Cond) ∈ NWl := List.mem_of_getElem? (i := 4) rfl
theorem nw5 : (.methodLinkNest RX1 75 yX11_at RX11 : Cond) ∈ NWl := List.mem_of_getElem? (i := 5) rfl
theorem nw6 : (.methodLinkNest RX1 85 yX11_put RX11 : Cond) ∈ NWl := List.mem_of_getElem? (i := 6) rfl
theorem nw7 : (.methodLinkNest RX2 45 yX11_put RX11 : Cond) ∈ NWl := List.mem_of_getElem? (i := 7) rfl
theorem nw8 : (.methodLinkNest RX2 68 yX11_at RX11 : Cond) ∈ NWl := List.mem_of_getElem? (i := 8) rfl
theorem nw9 : (.methodLinkNest RX2 95 yX11_isIn RX11 : Cond) ∈ NWl := List.mem_of_getElem? (i := 9) rfl
theorem nw10 : (.methodLinkNest RX3 143 yX11_isIn RX11 : Cond) ∈ NWl := List.mem_of_getElem? (i := 10) rfl
theorem nw11 : (.methodLinkNest RX4 26 yX11_at RX11 : Cond) ∈ NWl := List.mem_of_getElem? (i := 11) rfl
theorem nw12 : (.methodLinkNest RX5 63 yX11_at RX11 : Cond) ∈ NWl := List.mem_of_getElem? (i := 12) rfl
theorem nw13 : (.methodLinkNest RX5 67 yX11_put RX11 : Cond) ∈ NWl := List.mem_of_getElem? (i := 13) rfl
theorem nw14 : (.methodLinkNest RX6 87 yX11_put RX11 : Cond) ∈ NWl := List.mem_of_getElem? (i := 14) rfl
theorem nw15 : (.methodLinkNest RX6 94 yX11_isIn RX11 : Cond) ∈ NWl := List.mem_of_getElem? (i := 15) rfl
theorem nw16 : (.methodLinkNest RX6 98 yX11_at RX11 : Cond) ∈ NWl := List.mem_of_getElem? (i := 16) rfl
theorem nw17 : (.methodLinkNest RX7 34 yX11_at RX11 : Cond) ∈ NWl := List.mem_of_getElem? (i := 17) rfl
theorem nw18 : (.methodLinkNest RX7 38 yX11_put RX11 : Cond) ∈ NWl := List.mem_of_getElem? (i := 18) rfl
theorem nw19 : (.methodLinkNest RX7 68 yX11_isIn RX11 : Cond) ∈ NWl := List.mem_of_getElem? (i := 19) rfl
theorem nw20 : (.methodLinkNest RX8 119 yX11_isIn RX11 : Cond) ∈ NWl := List.mem_of_getElem? (i := 20) rfl
theorem nw21 : (.methodLinkNest RX8 68 yX11_at RX11 : Cond) ∈ NWl := List.mem_of_getElem? (i := 21) rfl
theorem nw22 : (.methodLinkNest RX8 72 yX11_put RX11 : Cond) ∈ NWl := List.mem_of_getElem? (i := 22) rfl
theorem nw23 : (.methodLinkNest RX10 26 yX11_put RX11 : Cond) ∈ NWl := List.mem_of_getElem? (i := 23) rfl
theorem nw24 : (.methodLinkNest RX10 35 yX11_at RX11 : Cond) ∈ NWl := List.mem_of_getElem? (i := 24) rfl
theorem NWl_is : ∀ w ∈ NWl, ∃ (a : String) (i : Nat) (x : MethodName) (h : String), w = .methodLinkNest a i x h := by
  intro w hw
  simp only [NWl, List.mem_cons, List.not_mem_nil, or_false] at hw
  rcases hw with rfl | rfl | rfl | rfl | rfl | rfl | rfl | rfl | rfl | rfl | rfl | rfl | rfl | rfl | rfl | rfl | rfl | rfl | rfl | rfl | rfl | rfl | rfl | rfl | rfl <;> exact ⟨_, _, _, _, rfl⟩
def nwP (U : State) : Prop := ∀ w ∈ NWl, va_Nw w U
theorem nwP.moved {s U : State} (hW : s.WarmedH U.vm) (h : nwP s) : nwP U := by
  intro w hw
  obtain ⟨a, i, x, k, rfl⟩ := NWl_is w hw
  exact va_Nw.warmM hW (h _ hw)
theorem nwP.same {s U : State} (hv : s.vm = U.vm) (h : nwP s) : nwP U := by
  intro w hw
  obtain ⟨a, i, x, k, rfl⟩ := NWl_is w hw
  exact va_Nw.same rfl hv (h _ hw)
/-- a world with the same addresses -/
theorem va_D.eqv {A : Nat → Prop} {w0 w1 : va_W} (h : va_D A w0) (e : w0.map (fun q => q.1) = w1.map (fun q => q.1)) : va_D A w1 := by
  have key : ∀ (k : Nat) (q : Nat × va_E), w1[k]? = some q → ∃ q0, w0[k]? = some q0 ∧ q0.1 = q.1 := by
    intro k q hk
    have h1 : (w1.map (fun q => q.1))[k]? = some q.1 := by rw [List.getElem?_map, hk]; rfl
    rw [← e, List.getElem?_map] at h1
    cases h2 : w0[k]? with
    | none => rw [h2] at h1; cases h1
    | some q0 => rw [h2] at h1; exact ⟨q0, rfl, Option.some.inj h1⟩
  refine ⟨fun i j x y hi hj hxy => ?_, fun k q hk => ?_⟩
  · obtain ⟨x0, h1, h2⟩ := key i x hi
    obtain ⟨y0, h3, h4⟩ := key j y hj
    exact h.1 i j x0 y0 h1 h3 (h2.trans (hxy.trans h4.symm))
  · obtain ⟨q0, h1, h2⟩ := key k q hk
    rw [← h2]
    exact h.2 k q0 h1
theorem wX_D {A : Nat → Prop} {E : xE} {g g' : xG} {a a' : xA} (h : va_D A (wX E g a)) : va_D A (wX E g' a') := h.eqv rfl
theorem wM_D {A : Nat → Prop} {E : xE} {g g' : xG} {a a' : xA} (h : va_D A (wM E g a)) : va_D A (wM E g' a') := h.eqv rfl
/-- a world that stands: the start of a contract -/
def xPc (E : xE) (av : List Value) (w0 : va_W) (sz : Nat) : Array Value → State → Prop := va_Pc av (fun U => U.heap.size = sz ∧ va_P E.1 vwCl w0 U.heap ∧ va_K E.1 vwCl (tyX E) U ∧ nwP U)
theorem xPc.blind {E : xE} {av : List Value} {w0 : va_W} {sz : Nat} : FrameBlind (xPc E av w0 sz) := fun _ U g mk h => ⟨h.1, h.2.1, h.2.2.1, va_K.moved (Vm.Alike.refl U.vm) h.2.2.2.1, nwP.same (s := U) (U := U.calling g mk _) rfl h.2.2.2.2⟩
def xM (l : Launch) (E : xE) (y : MethodName) (cc : ByteArray) (n : Nat) (ret : Option FieldType) (F L : Nat) (av : List Value) (w0 : va_W) (Qp : (Nat → Prop) → Array Value → State → Outcome → State → Prop) : Prop :=
  ∀ (sz : Nat) (A : Nat → Prop), (∀ q, sz ≤ q → A q) → va_D A w0 → Met l y (.code y cc n ret :: BW) ({ frames := F, cells := 0, slots := 0, locals := L }) (xPc E av w0 sz) (Qp A) 0 0 A
def xQi (E : xE) (r : Int32) (w1 : va_W) (A : Nat → Prop) : Array Value → State → Outcome → State → Prop := va_Qi (fun (r1 : Int32) (_ : Unit) => r1 = r) (fun _ t => va_P E.1 vwCl w1 t.heap) A
def xQl (E : xE) (r : Int64) (w1 : va_W) (A : Nat → Prop) : Array Value → State → Outcome → State → Prop := va_Ql (fun (r1 : Int64) (_ : Unit) => r1 = r) (fun _ t => va_P E.1 vwCl w1 t.heap) A
def xQv (E : xE) (w1 : va_W) (A : Nat → Prop) : Array Value → State → Outcome → State → Prop := va_Qv (fun (_ : Unit) => True) (fun _ t => va_P E.1 vwCl w1 t.heap) A
def xQq (E : xE) (r : Option Nat) (w1 : va_W) (A : Nat → Prop) : Array Value → State → Outcome → State → Prop := va_Qq (fun (r1 : Option Nat) (_ : Unit) => r1 = r) (fun _ t => va_P E.1 vwCl w1 t.heap) A
theorem xM_of {l : Launch} {E : xE} {y : MethodName} {cc : ByteArray} {n : Nat} {ret : Option FieldType} {F L : Nat} {av : List Value} {w0 : va_W} {Qp : (Nat → Prop) → Array Value → State → Outcome → State → Prop} (hy : plainName y.cls = true) (hn : (lg_sl av).length ≤ n)
    (body : ∀ (p : Program) (e : Env) (s : State) (m : MethodId) (below : List Frame) (meth : Method) (c : Code) (A : Nat → Prop), p.tables.exec = Jvm.exec → c.code = cc → meth.sig.returnType = ret → c.maxLocals = n → (∀ w ∈ (Cond.code y cc n ret :: BW), w.before av.toArray s = true) → s.vm.findClass y.cls = some m.cls → meth.locks = false → (∀ q, s.heap.size ≤ q → A q) → va_D A w0 → va_P E.1 vwCl w0 s.heap → va_K E.1 vwCl (tyX E) s → nwP s → va_S A s.heap s.heap [] →
      ∀ ls : Array Slot, lv_has ls n (lv_args 0 av) → W p l e ({ frames := F, cells := 0, slots := 0, locals := L }) s m av.toArray below meth c s.heap [] 0 0 (MQ below (Qp A) av.toArray s 0 0 A) (F0 m 0 ls [])) : xM l E y cc n ret F L av w0 Qp := by
  intro sz A hA hD
  refine Met.ofW (cc := cc) (maxL := n) (ret := ret) hy rfl ?_
  intro p e s m args below meth c s₁ B hml hv
  obtain ⟨rfl, hsz, hP, hK, hN⟩ := hv
  subst hsz
  have hl := lv_entry av (n := n) hn
  rw [lg_entry_eq]
  exact body p e s m below meth c A B.exec B.bytes B.returns hml (atoms_spec (ws := Cond.code y cc n ret :: BW) B.pre) (findClass_of_methodNamed B.named) B.notSynchronized hA hD hP hK hN va_S.rf _ hl
section XR
variable {p : Program} {l : Launch} {e : Env} {R : Room} {s : State} {m : MethodId} {args : Array Value} {below : List Frame} {meth : Method} {c : Code} {H : Heap} {locs : List Loc} {cc : ByteArray} {pc : Nat} {ls : Array Slot} {E : xE} {A : Nat → Prop} {w1 : va_W}
theorem xi_ret (hx : p.tables.exec = Jvm.exec) (hb : c.code = cc) (hr : meth.sig.returnType = some .int) (hlocks : meth.locks = false) (hP : va_P E.1 vwCl w1 H) (hS : va_S A s.heap H locs) {v r : Int32} (hv : v = r) (hdg : decode cc pc = .ok (.ireturn, 1)) : W p l e R s m args below meth c H locs 0 0 (MQ below (xQi E r w1 A) args s 0 0 A) (F0 m pc ls [.int v]) :=
  W.iret (v := v) hx hb hr (fun t ht _ => ⟨⟨v, (), rfl, hv, by show va_P E.1 vwCl w1 t.heap; rw [ht]; exact hP⟩, hS.F ht⟩) hS.2.2 hdg
theorem xz_ret {ty : FieldType} (hx : p.tables.exec = Jvm.exec) (hb : c.code = cc) (hr : meth.sig.returnType = some ty) (hlocks : meth.locks = false) (hP : va_P E.1 vwCl w1 H) (hS : va_S A s.heap H locs) {v r : Int32} (hv : v = r) (hn : narrow ty (.int v) = .int v) (hdg : decode cc pc = .ok (.ireturn, 1)) : W p l e R s m args below meth c H locs 0 0 (MQ below (xQi E r w1 A) args s 0 0 A) (F0 m pc ls [.int v]) :=
  W.zret (v := v) hx hb hr hn (fun t ht _ => ⟨⟨v, (), rfl, hv, by show va_P E.1 vwCl w1 t.heap; rw [ht]; exact hP⟩, hS.F ht⟩) hS.2.2 hdg
theorem xl_ret (hx : p.tables.exec = Jvm.exec) (hb : c.code = cc) (hr : meth.sig.returnType = some .long) (hlocks : meth.locks = false) (hP : va_P E.1 vwCl w1 H) (hS : va_S A s.heap H locs) {v r : Int64} (hv : v = r) (hdg : decode cc pc = .ok (.lreturn, 1)) : W p l e R s m args below meth c H locs 0 0 (MQ below (xQl E r w1 A) args s 0 0 A) (F0 m pc ls [.long v]) :=
  W.lret (v := v) hx hb hr (fun t ht _ => ⟨⟨v, (), rfl, hv, by show va_P E.1 vwCl w1 t.heap; rw [ht]; exact hP⟩, hS.F ht⟩) hS.2.2 hdg
theorem xv_ret (hx : p.tables.exec = Jvm.exec) (hb : c.code = cc) (hr : meth.sig.returnType = none) (hlocks : meth.locks = false) (hP : va_P E.1 vwCl w1 H) (hS : va_S A s.heap H locs) (hdg : decode cc pc = .ok (.return_, 1)) : W p l e R s m args below meth c H locs 0 0 (MQ below (xQv E w1 A) args s 0 0 A) (F0 m pc ls []) :=
  W.vret hx hb hr (fun t ht _ => ⟨⟨(), rfl, trivial, by show va_P E.1 vwCl w1 t.heap; rw [ht]; exact hP⟩, hS.F ht⟩) hS.2.2 hdg
theorem xq_ret {rt : FieldType} (hx : p.tables.exec = Jvm.exec) (hb : c.code = cc) (hr : meth.sig.returnType = some rt) (hrt : (∃ n, rt = .object n) ∨ ∃ t, rt = .array t) (hlocks : meth.locks = false) (hP : va_P E.1 vwCl w1 H) (hS : va_S A s.heap H locs) {v : Value} {r : Option Nat} (hv : v = va_rf r) (hdg : decode cc pc = .ok (.areturn, 1)) : W p l e R s m args below meth c H locs 0 0 (MQ below (xQq E r w1 A) args s 0 0 A) (F0 m pc ls [v]) :=
  W.aret (v := v) hx hb hr hrt (by subst hv; cases r with | none => exact Or.inl rfl | some q => exact Or.inr ⟨q, rfl⟩) (fun t ht _ => ⟨⟨r, (), by rw [hv], rfl, by show va_P E.1 vwCl w1 t.heap; rw [ht]; exact hP⟩, hS.F ht⟩) hS.2.2 hdg
end XR
section XC
variable {p : Program} {l : Launch} {e : Env} {R : Room} {s : State} {m : MethodId} {args : Array Value} {below : List Frame} {meth : Method} {c : Code} {H : Heap} {locs : List Loc} {cells slots : Nat} {Q : State → Prop} {cc : ByteArray} {pc : Nat} {ls : Array Slot} {st rest : List Value} {E : xE} {A : Nat → Prop} {w0 w1 : va_W}
variable {y y0 : MethodName} {bytes c0 : ByteArray} {maxL n0 nL F L k index : Nat} {ret r0 : Option FieldType} {own C host : String} {b : Addr} {As : List Value}
theorem xpre {av : List Value} (hP : va_P E.1 vwCl w0 H) (hK : va_K E.1 vwCl (tyX E) s) (hN : nwP s) : ∀ U : State, U.heap = H → s.WarmedH U.vm → xPc E av w0 H.size av.toArray U := fun U hU hW => ⟨rfl, by rw [hU], by rw [hU]; exact hP, va_K.moved hW.alike hK, hN.moved hW⟩
theorem xpay {ws : List Cond} (hts : ∀ w ∈ ws, w.before args s = true) (hin : ∀ w ∈ BW, w ∈ ws) {cd : Cond} (hcode : cd ∈ BW) : ∀ w ∈ cd :: BW, ∀ (a' : Array Value) (U : State), s.WarmedH U.vm → w.before a' U = true := by
  intro w hw a' U hW
  rcases List.mem_cons.mp hw with rfl | h
  · exact word_at hW (good_of_word (go_BW _ hcode)) (hts _ (hin _ hcode))
  · exact word_at hW (good_of_word (go_BW _ h)) (hts _ (hin _ h))
theorem xcB (hts : ∀ w ∈ (Cond.code y0 c0 n0 r0 :: BW), w.before args s = true) (hcode : Cond.code y bytes maxL ret ∈ BW) (hlink : Cond.methodLink own index y ∈ BW) (hini : Cond.initialized y.cls ∈ BW)
    (hd : y.cls ≠ "java/lang/invoke/MethodHandle" ∧ y.cls ≠ "java/lang/invoke/VarHandle" ∧ (parseMethodDescriptor y.desc).map (fun d => d.parameters.length) = some k) (hR : F + 1 ≤ R.frames ∧ 8 + (maxL + 11) + L ≤ R.locals) :
    CallB R s args own index y bytes maxL ret (.code y bytes maxL ret :: BW) ({ frames := F, cells := 0, slots := 0, locals := L }) 0 0 k := by
  refine ⟨rfl, rfl, hR.1, hR.2, xpay hts (fun w h => List.mem_cons_of_mem _ h) hcode, List.mem_cons_self, hts _ (List.mem_cons_of_mem _ hcode), hts _ (List.mem_cons_of_mem _ hini), ⟨hd.1, hd.2.1⟩, fun sig h => ?_, hts _ (List.mem_cons_of_mem _ hlink)⟩
  have h2 := hd.2.2
  rw [h] at h2
  exact (Option.some.inj h2).symm
theorem xcN (hts : ∀ w ∈ (Cond.code y0 c0 n0 r0 :: BW), w.before args s = true) (hN : nwP s) (hcode : Cond.code y bytes maxL ret ∈ BW) (hlink : Cond.methodLinkNest own index y host ∈ NWl) (hini : Cond.initialized y.cls ∈ BW)
    (hd : y.cls ≠ "java/lang/invoke/MethodHandle" ∧ y.cls ≠ "java/lang/invoke/VarHandle" ∧ (parseMethodDescriptor y.desc).map (fun d => d.parameters.length) = some k) (hR : F + 1 ≤ R.frames ∧ 8 + (maxL + 11) + L ≤ R.locals) :
    va_CN R s args own index y host bytes maxL ret (.code y bytes maxL ret :: BW) ({ frames := F, cells := 0, slots := 0, locals := L }) 0 0 k :=
  va_cnB k (fun w h => hts w h) (fun w h => by
    rcases List.mem_cons.mp h with rfl | h
    · exact ⟨List.mem_cons_of_mem _ hcode, good_of_word (go_BW _ hcode)⟩
    · exact ⟨List.mem_cons_of_mem _ h, good_of_word (go_BW _ h)⟩) rfl rfl rfl (hN _ hlink) (hts _ (List.mem_cons_of_mem _ hini)) hd hR
/-- what stands at a call: the caller's facts -/
def xCtx (E : xE) (p : Program) (m : MethodId) (c : Code) (cc : ByteArray) (nL : Nat) (s : State) (args : Array Value) (own : String) (A : Nat → Prop) (y0 : MethodName) (c0 : ByteArray) (n0 : Nat) (r0 : Option FieldType) : Prop :=
  p.tables.exec = Jvm.exec ∧ c.code = cc ∧ c.maxLocals = nL ∧ s.vm.findClass own = some m.cls ∧ (∀ w ∈ (Cond.code y0 c0 n0 r0 :: BW), w.before args s = true) ∧ (∀ q, s.heap.size ≤ q → A q) ∧ va_K E.1 vwCl (tyX E) s ∧ nwP s
theorem xCtx.fix (h : xCtx E p m c cc nL s args own A y0 c0 n0 r0) : CallFix p m c cc nL s args (Cond.code y0 c0 n0 r0 :: BW) own := ⟨h.1, h.2.1, h.2.2.1, h.2.2.2.1, h.2.2.2.2.1⟩
theorem xRunV {Qp : (Nat → Prop) → Array Value → State → Outcome → State → Prop} (C0 : xCtx E p m c cc nL s args own A y0 c0 n0 r0) (hM : xM l E y bytes maxL ret F L (.ref b :: As) w0 Qp) (hcode : Cond.code y bytes maxL ret ∈ BW) (hlink : Cond.methodLink own index y ∈ BW) (hini : Cond.initialized y.cls ∈ BW) (hin : Cond.instanceMethod y ∈ BW) (hsel : Cond.selects C y y ∈ BW)
    (hd : y.cls ≠ "java/lang/invoke/MethodHandle" ∧ y.cls ≠ "java/lang/invoke/VarHandle" ∧ (parseMethodDescriptor y.desc).map (fun d => d.parameters.length) = some k) (hR : F + 1 ≤ R.frames ∧ 8 + (maxL + 11) + L ≤ R.locals)
    (hP : va_P E.1 vwCl w0 H) (hD : va_D A w0) (hS : va_S A s.heap H locs) (hrecv : ∃ cellB : Cell, H[b]? = some cellB ∧ cellB.vm.isStatics = false ∧ s.vm.findClass C = some cellB.cls) (hn : As.length = k) (hsize : ls.size = nL) (hst : st = As.reverse ++ .ref b :: rest) (hW : (rest.map fun v => v.category).sum ≤ 8) (hdg : decode cc pc = .ok (.invokevirtual index, 3)) (hf : cells ≤ R.cells ∧ slots ≤ R.slots) :
    va_Run p l e R s m args below meth c H locs cells slots 0 0 (F0 m pc ls st) rest (Qp A (Value.ref b :: As).toArray) A := by
  obtain ⟨hx, hb, hml, hown, hts, hA, hK, hN⟩ := id C0
  exact va_runV (As := As) (rest := rest) C0.fix (hM H.size A (fun q hq => hA q (Nat.le_trans hS.1 hq)) hD) ⟨xcB hts hcode hlink hini hd hR, hts _ (List.mem_cons_of_mem _ hin), hts _ (List.mem_cons_of_mem _ hsel)⟩ ⟨xPc.blind, hrecv, xpre hP hK hN⟩ rfl hn hsize hst (lv_room hW) hdg hf
theorem xRunS {Qp : (Nat → Prop) → Array Value → State → Outcome → State → Prop} (C0 : xCtx E p m c cc nL s args own A y0 c0 n0 r0) (hM : xM l E y bytes maxL ret F L As w0 Qp) (hcode : Cond.code y bytes maxL ret ∈ BW) (hlink : Cond.methodLink own index y ∈ BW) (hini : Cond.initialized y.cls ∈ BW) (hstt : Cond.static y ∈ BW)
    (hd : y.cls ≠ "java/lang/invoke/MethodHandle" ∧ y.cls ≠ "java/lang/invoke/VarHandle" ∧ (parseMethodDescriptor y.desc).map (fun d => d.parameters.length) = some k) (hR : F + 1 ≤ R.frames ∧ 8 + (maxL + 11) + L ≤ R.locals)
    (hP : va_P E.1 vwCl w0 H) (hD : va_D A w0) (hS : va_S A s.heap H locs) (hn : As.length = k) (hsize : ls.size = nL) (hst : st = As.reverse ++ rest) (hW : (rest.map fun v => v.category).sum ≤ 8) (hdg : decode cc pc = .ok (.invokestatic index, 3)) (hf : cells ≤ R.cells ∧ slots ≤ R.slots) :
    va_Run p l e R s m args below meth c H locs cells slots 0 0 (F0 m pc ls st) rest (Qp A As.toArray) A := by
  obtain ⟨hx, hb, hml, hown, hts, hA, hK, hN⟩ := id C0
  exact va_runS (As := As) (rest := rest) C0.fix (hM H.size A (fun q hq => hA q (Nat.le_trans hS.1 hq)) hD) ⟨xcB hts hcode hlink hini hd hR, hts _ (List.mem_cons_of_mem _ hstt)⟩ ⟨xPc.blind, xpre hP hK hN⟩ rfl hn hsize hst (lv_room hW) hdg hf
theorem xRunN {Qp : (Nat → Prop) → Array Value → State → Outcome → State → Prop} (C0 : xCtx E p m c cc nL s args own A y0 c0 n0 r0) (hM : xM l E y bytes maxL ret F L As w0 Qp) (hcode : Cond.code y bytes maxL ret ∈ BW) (hlink : Cond.methodLinkNest own index y host ∈ NWl) (hini : Cond.initialized y.cls ∈ BW) (hstt : Cond.static y ∈ BW)
    (hd : y.cls ≠ "java/lang/invoke/MethodHandle" ∧ y.cls ≠ "java/lang/invoke/VarHandle" ∧ (parseMethodDescriptor y.desc).map (fun d => d.parameters.length) = some k) (hR : F + 1 ≤ R.frames ∧ 8 + (maxL + 11) + L ≤ R.locals)
    (hP : va_P E.1 vwCl w0 H) (hD : va_D A w0) (hS : va_S A s.heap H locs) (hn : As.length = k) (hsize : ls.size = nL) (hst : st = As.reverse ++ rest) (hW : (rest.map fun v => v.category).sum ≤ 8) (hdg : decode cc pc = .ok (.invokestatic index, 3)) (hf : cells ≤ R.cells ∧ slots ≤ R.slots) :
    va_Run p l e R s m args below meth c H locs cells slots 0 0 (F0 m pc ls st) rest (Qp A As.toArray) A := by
  obtain ⟨hx, hb, hml, hown, hts, hA, hK, hN⟩ := id C0
  exact va_runSN (As := As) (rest := rest) C0.fix (hM H.size A (fun q hq => hA q (Nat.le_trans hS.1 hq)) hD) ⟨xcN hts hN hcode hlink hini hd hR, hts _ (List.mem_cons_of_mem _ hstt), trivial⟩ ⟨xPc.blind, xpre hP hK hN⟩ rfl hn hsize hst (lv_room hW) hdg hf
theorem xci {a : Array Value} {r : Int32} (hr : va_Run p l e R s m args below meth c H locs cells slots 0 0 (F0 m pc ls st) rest (xQi E r w1 A a) A) (hS : va_S A s.heap H locs) (kk : ∀ (H1 : Heap) (locs1 : List Loc), va_P E.1 vwCl w1 H1 → va_S A s.heap H1 locs1 → W p l e R s m args below meth c H1 locs1 cells slots Q (F0 m (pc + 3) ls (.int r :: rest))) : W p l e R s m args below meth c H locs cells slots Q (F0 m pc ls st) :=
  va_calli hr hS (fun _ _ h => h) (fun _ h => h) (fun r1 _ t H1 locs1 ht _ hp hB _ _ hS1 => by subst hp; exact kk H1 locs1 (by rw [← ht]; exact hB) hS1)
theorem xcl {a : Array Value} {r : Int64} (hr : va_Run p l e R s m args below meth c H locs cells slots 0 0 (F0 m pc ls st) rest (xQl E r w1 A a) A) (hS : va_S A s.heap H locs) (kk : ∀ (H1 : Heap) (locs1 : List Loc), va_P E.1 vwCl w1 H1 → va_S A s.heap H1 locs1 → W p l e R s m args below meth c H1 locs1 cells slots Q (F0 m (pc + 3) ls (.long r :: rest))) : W p l e R s m args below meth c H locs cells slots Q (F0 m pc ls st) :=
  va_calll hr hS (fun _ _ h => h) (fun _ h => h) (fun r1 _ t H1 locs1 ht _ hp hB _ _ hS1 => by subst hp; exact kk H1 locs1 (by rw [← ht]; exact hB) hS1)
theorem xcv {a : Array Value} (hr : va_Run p l e R s m args below meth c H locs cells slots 0 0 (F0 m pc ls st) rest (xQv E w1 A a) A) (hS : va_S A s.heap H locs) (kk : ∀ (H1 : Heap) (locs1 : List Loc), va_P E.1 vwCl w1 H1 → va_S A s.heap H1 locs1 → W p l e R s m args below meth c H1 locs1 cells slots Q (F0 m (pc + 3) ls rest)) : W p l e R s m args below meth c H locs cells slots Q (F0 m pc ls st) :=
  va_callv hr hS (fun _ _ h => h) (fun _ h => h) (fun _ t H1 locs1 ht _ _ hB _ _ hS1 => kk H1 locs1 (by rw [← ht]; exact hB) hS1)
theorem xcq {a : Array Value} {r : Option Nat} (hr : va_Run p l e R s m args below meth c H locs cells slots 0 0 (F0 m pc ls st) rest (xQq E r w1 A a) A) (hS : va_S A s.heap H locs) (kk : ∀ (H1 : Heap) (locs1 : List Loc), va_P E.1 vwCl w1 H1 → va_S A s.heap H1 locs1 → W p l e R s m args below meth c H1 locs1 cells slots Q (F0 m (pc + 3) ls (va_rf r :: rest))) : W p l e R s m args below meth c H locs cells slots Q (F0 m pc ls st) :=
  va_callq hr hS (fun _ _ h => h) (fun _ h => h) (fun r1 _ t H1 locs1 ht _ hp hB _ _ hS1 => by subst hp; exact kk H1 locs1 (by rw [← ht]; exact hB) hS1)
end XC
/-- a condition that a walk needs -/
def ck {α : Type} (b : Bool) (k : Option α) : Option α := if b = true then k else none
theorem ck_some {α : Type} {b : Bool} {k : Option α} {r : α} (h : ck b k = some r) : b = true ∧ k = some r := by
  unfold ck at h
  cases hb : b with
  | true => rw [hb] at h; exact ⟨rfl, by simpa using h⟩
  | false => rw [hb] at h; cases h
theorem bd_some {α β : Type} {x : Option α} {f : α → Option β} {r : β} (h : Option.bind x f = some r) : ∃ a, x = some a ∧ f a = some r := by
  cases x with
  | none => cases h
  | some a => exact ⟨a, rfl, h⟩
def inB (i : Int32) (n : Nat) : Bool := decide (¬ (i < 0 ∨ n ≤ i.toNatClampNeg))
theorem inB_in {i : Int32} {n : Nat} (h : inB i n = true) : vp_in i n := of_decide_eq_true (p := ¬ (i < 0 ∨ n ≤ i.toNatClampNeg)) h
def nzB (i : Int32) : Bool := decide (¬ i = 0)
theorem nzB_nz {i : Int32} (h : nzB i = true) : ¬ i = 0 := of_decide_eq_true h
def boB (i : Int32) : Bool := decide (i = 0 ∨ i = 1)
theorem boB_bo {i : Int32} (h : boB i = true) : narrow .boolean (.int i) = .int i := by
  rcases of_decide_eq_true h with rfl | rfl <;> rfl
def chB (i : Int32) : Bool := decide ((i.toUInt32 % 65536).toInt32 = i)
theorem chB_ch {i : Int32} (h : chB i = true) : narrow .char (.int i) = .int i := by
  have e : (i.toUInt32 % 65536).toInt32 = i := of_decide_eq_true h
  have := pk_nc i
  rw [e] at this
  exact this
def fu : Nat := 1000000
theorem xP_eq {D : va_G} {cl : List vw_C} {w w' : va_W} {H : Heap} (e : w = w') (h : va_P D cl w H) : va_P D cl w' H := e ▸ h
theorem tsw_out {x : Int32} (lo : Int32) (n : Nat) (hb : 0 ≤ lo.toInt ∧ lo.toInt + n < 2 ^ 31) (h : ∀ i, i < n → ¬ x = lo + Int32.ofNat i) : x.toInt < lo.toInt ∨ lo.toInt + (n : Int) - 1 < x.toInt := by
  by_cases h1 : x.toInt < lo.toInt
  · exact Or.inl h1
  · by_cases h2 : lo.toInt + (n : Int) - 1 < x.toInt
    · exact Or.inr h2
    · exfalso
      have e : (x.toInt - lo.toInt).toNat < n := by omega
      refine h _ e ?_
      apply Int32.toInt_inj.mp
      rw [Int32.toInt_add, Int32.toInt_ofNat_of_lt (by omega), Int.bmod_eq_of_le (by omega) (by omega)]
      omega
section XS
variable {p : Program} {l : Launch} {e : Env} {R : Room} {s : State} {m : MethodId} {args : Array Value} {below : List Frame} {meth : Method} {c : Code} {H : Heap} {locs : List Loc} {cc : ByteArray} {pc : Nat} {ls : Array Slot} {E : xE} {A : Nat → Prop}
theorem xi_retS {α : Type} {x res : α} (hx : p.tables.exec = Jvm.exec) (hb : c.code = cc) (hr : meth.sig.returnType = some .int) (hlocks : meth.locks = false) (he : x = res) {fr : α → Int32} {fw : α → va_W} (hP : va_P E.1 vwCl (fw x) H) (hS : va_S A s.heap H locs) (hdg : decode cc pc = .ok (.ireturn, 1)) : W p l e R s m args below meth c H locs 0 0 (MQ below (xQi E (fr res) (fw res) A) args s 0 0 A) (F0 m pc ls [.int (fr x)]) := by
  subst he; exact xi_ret hx hb hr hlocks hP hS rfl hdg
theorem xz_retS {α : Type} {x res : α} {ty : FieldType} (hx : p.tables.exec = Jvm.exec) (hb : c.code = cc) (hr : meth.sig.returnType = some ty) (hlocks : meth.locks = false) (he : x = res) {fr : α → Int32} {fw : α → va_W} (hn : narrow ty (.int (fr x)) = .int (fr x)) (hP : va_P E.1 vwCl (fw x) H) (hS : va_S A s.heap H locs) (hdg : decode cc pc = .ok (.ireturn, 1)) : W p l e R s m args below meth c H locs 0 0 (MQ below (xQi E (fr res) (fw res) A) args s 0 0 A) (F0 m pc ls [.int (fr x)]) := by
  subst he; exact xz_ret hx hb hr hlocks hP hS rfl hn hdg
theorem xl_retS {α : Type} {x res : α} (hx : p.tables.exec = Jvm.exec) (hb : c.code = cc) (hr : meth.sig.returnType = some .long) (hlocks : meth.locks = false) (he : x = res) {fr : α → Int64} {fw : α → va_W} (hP : va_P E.1 vwCl (fw x) H) (hS : va_S A s.heap H locs) (hdg : decode cc pc = .ok (.lreturn, 1)) : W p l e R s m args below meth c H locs 0 0 (MQ below (xQl E (fr res) (fw res) A) args s 0 0 A) (F0 m pc ls [.long (fr x)]) := by
  subst he; exact xl_ret hx hb hr hlocks hP hS rfl hdg
theorem xv_retS {α : Type} {x res : α} (hx : p.tables.exec = Jvm.exec) (hb : c.code = cc) (hr : meth.sig.returnType = none) (hlocks : meth.locks = false) (he : x = res) {fw : α → va_W} (hP : va_P E.1 vwCl (fw x) H) (hS : va_S A s.heap H locs) (hdg : decode cc pc = .ok (.return_, 1)) : W p l e R s m args below meth c H locs 0 0 (MQ below (xQv E (fw res) A) args s 0 0 A) (F0 m pc ls []) := by
  subst he; exact xv_ret hx hb hr hlocks hP hS hdg
end XS

