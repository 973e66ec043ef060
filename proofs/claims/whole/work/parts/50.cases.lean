/-! The law's body over the two worlds: what each call owes, and each case of its switch. -/
def A0 (s : State) : Nat → Prop := fun q => s.heap.size ≤ q
def lwC (p : Program) (l : Launch) (s : State) (m : MethodId) (c : Code) (b L : Nat) (xs : Nat → Int32) (E : xE) : Prop :=
  p.tables.exec = Jvm.exec ∧ c.code = code ∧ c.maxLocals = 8 ∧ s.vm.findClass RL = some m.cls ∧ (∀ w ∈ BW, w.before #[Value.ref b] s = true) ∧ va_K E.1 vwCl (tyX E) s ∧ nwP s ∧ thP s ∧ stP s ∧ zP (A0 s) s s.heap ∧ ncP s ∧ va_X b L xs s s.heap ∧ b < s.heap.size ∧ l.stackTraces = false
abbrev wL (E : xE) (qm : Nat → Nat) (g : xG) (a : xA) (bo : Nat) (fo : Nat → Int64) (gm : xG) (am : xA) : va_W := (wX E g a ++ oC E bo fo) ++ wM (Eq_ E qm) gm am
theorem P_swap {D : va_G} {cl : List vw_C} {x y : va_W} {H : Heap} (h : va_P D cl (x ++ y) H) : va_P D cl (y ++ x) H := (frP1 h).app (frP0 h)
theorem D_swap {A : Nat → Prop} {x y : va_W} (h : va_D A (x ++ y)) : va_D A (y ++ x) := by
  have key : ∀ (k : Nat) (q : Nat × va_E), (y ++ x)[k]? = some q → (x ++ y)[if k < y.length then x.length + k else k - y.length]? = some q := by
    intro k q hk
    by_cases hl : k < y.length
    · rw [if_pos hl, List.getElem?_append_right (by omega)]
      rw [List.getElem?_append_left hl] at hk
      simpa using hk
    · rw [if_neg hl]
      rw [List.getElem?_append_right (by omega)] at hk
      rw [List.getElem?_append_left (List.getElem?_eq_some_iff.mp hk).1]
      exact hk
  refine ⟨fun i j p q hi hj e => ?_, fun k q hk => h.2 _ q (key k q hk)⟩
  have h1 := h.1 _ _ p q (key i p hi) (key j q hj) e
  have li := (List.getElem?_eq_some_iff.mp hi).1
  have lj := (List.getElem?_eq_some_iff.mp hj).1
  rw [List.length_append] at li lj
  split at h1 <;> split at h1 <;> omega
theorem law_in {i L : Nat} (hL : L ≤ 2560) (hi : i ≤ L) (h : ¬ Int32.ofNat L - 5 < nI i) : i + 5 ≤ L := by
  rcases Nat.lt_or_ge L (i + 5) with q | q
  · exfalso
    apply h
    apply Int32.lt_iff_toInt_lt.mpr
    have e1 : (Int32.ofNat L - 5 : Int32).toInt = (L : Int) - 5 := pk_sub_toInt (a := L) (b := 5) (by omega) (by omega)
    have e2 : (nI i).toInt = (i : Int) := nI_toInt (by omega)
    rw [e1, e2]
    omega
  · exact q
theorem law_j {i L : Nat} {x4 : Int32} (ex4 : x4 = nI i) (hi : i + 5 ≤ L) (hL : L ≤ 2560) (k : Nat) (hk : k < 5) : vp_in (x4 + nI k) L := by
  rw [ex4, nI_add]
  exact vp_in_nI (by omega) (by omega)
theorem lg_self {x y : Int64} (h : x = y) : lg_cmp x y = 0 := by
  subst h
  unfold lg_cmp
  rw [if_neg (by intro h; exact absurd h (by simp)), if_pos rfl]
section LC
variable {p : Program} {l : Launch} {e : Env} {s : State} {m : MethodId} {below : List Frame} {meth : Method} {c : Code} {H : Heap} {locs : List Loc} {cells slots : Nat} {Q : State → Prop} {pc : Nat} {ls : Array Slot} {st rest : List Value} {E : xE} {qm : Nat → Nat} {b L : Nat} {xs : Nat → Int32} {g g1 gm gm1 : xG} {a a1 am am1 : xA} {bo : Nat} {fo f1 : Nat → Int64}
variable {y : MethodName} {bytes : ByteArray} {maxL F L0 k index mc ms : Nat} {As : List Value} {hh : List (Nat × Nat × Nat × Nat)} {r : Int32}
theorem lwB {ret : Option FieldType} {own : String} (hw : ∀ w ∈ BW, w.before #[Value.ref b] s = true) (hcode : Cond.code y bytes maxL ret ∈ BW) (hlink : Cond.methodLink own index y ∈ BW) (hini : Cond.initialized y.cls ∈ BW)
    (hd : y.cls ≠ "java/lang/invoke/MethodHandle" ∧ y.cls ≠ "java/lang/invoke/VarHandle" ∧ (parseMethodDescriptor y.desc).map (fun d => d.parameters.length) = some k) (hR : F + 1 ≤ room_1.frames ∧ 8 + (maxL + 11) + L0 ≤ room_1.locals) :
    CallB room_1 s #[Value.ref b] own index y bytes maxL ret (.code y bytes maxL ret :: BW) ({ frames := F, cells := mc, slots := ms, locals := L0 }) mc ms k := by
  refine ⟨rfl, rfl, hR.1, hR.2, xpay hw (fun w h => h) hcode, List.mem_cons_self, hw _ hcode, hw _ hini, ⟨hd.1, hd.2.1⟩, fun sig h => ?_, hw _ hlink⟩
  have h2 := hd.2.2
  rw [h] at h2
  exact (Option.some.inj h2).symm
theorem lRunV {E0 : xE} (h0 : E0.1 = E.1 ∧ E0.2.2 = E.2.2) {w0 wr : va_W} {C : String} {b0 : Addr} {ret : Option FieldType} {Qp : (Nat → Prop) → Array Value → State → Outcome → State → Prop} (C0 : lwC p l s m c b L xs E) (hM : ∀ (sz : Nat) (A : Nat → Prop), (∀ q, sz ≤ q → A q) → va_D A w0 → Met l y (.code y bytes maxL ret :: BW) ({ frames := F, cells := mc, slots := ms, locals := L0 }) (xPc E0 (.ref b0 :: As) w0 sz) (Qp A) mc ms A) (hcode : Cond.code y bytes maxL ret ∈ BW) (hlink : Cond.methodLink RL index y ∈ BW) (hini : Cond.initialized y.cls ∈ BW) (hin : Cond.instanceMethod y ∈ BW) (hsel : Cond.selects C y y ∈ BW)
    (hd : y.cls ≠ "java/lang/invoke/MethodHandle" ∧ y.cls ≠ "java/lang/invoke/VarHandle" ∧ (parseMethodDescriptor y.desc).map (fun d => d.parameters.length) = some k) (hR : F + 1 ≤ room_1.frames ∧ 8 + (maxL + 11) + L0 ≤ room_1.locals)
    (hP : va_P E.1 vwCl (w0 ++ wr) H) (hD : va_D (A0 s) (w0 ++ wr)) (hS : va_S (A0 s) s.heap H locs) (hrecv : ∃ cellB : Cell, H[b0]? = some cellB ∧ cellB.vm.isStatics = false ∧ s.vm.findClass C = some cellB.cls) (hn : As.length = k) (hsize : ls.size = 8) (hst : st = As.reverse ++ .ref b0 :: rest) (hW : (rest.map fun v => v.category).sum ≤ 8) (hdg : decode code pc = .ok (.invokevirtual index, 3)) (hf : cells + mc ≤ room_1.cells ∧ slots + ms ≤ room_1.slots) :
    va_Run p l e room_1 s m #[Value.ref b] below meth c H locs cells slots mc ms (F0 m pc ls st) rest (Qp (frA (A0 s) wr) (Value.ref b0 :: As).toArray) (frA (A0 s) wr) := by
  obtain ⟨hx, hb, hml, hown, hw, hK, hN, -, -, -, -, -, -, -⟩ := C0
  have hA : ∀ q, s.heap.size ≤ q → A0 s q := fun _ h => h
  have hP0 : va_P E0.1 vwCl w0 H := by rw [h0.1]; exact frP0 hP
  have hK0 : va_K E0.1 vwCl (tyX E0) s := by
    have e2 : tyX E0 = tyX E := by unfold tyX; rw [h0.2]
    rw [h0.1, e2]; exact hK
  exact va_runV (Ts := BW) (As := As) (rest := rest) ⟨hx, hb, hml, hown, hw⟩ (hM H.size (frA (A0 s) wr) (frA_new hP (fun q hq => hA q (Nat.le_trans hS.1 hq))) (frA_D hD)) ⟨lwB hw hcode hlink hini hd hR, hw _ hin, hw _ hsel⟩ ⟨xPc.blind, hrecv, xpre hP0 hK0 hN⟩ rfl hn hsize hst (lv_room hW) hdg hf
theorem lcX {r : Int32} (C0 : lwC p l s m c b L xs E) (hM : ∀ (sz : Nat) (A : Nat → Prop), (∀ q, sz ≤ q → A q) → va_D A (wX E g a) → Met l y (.code y bytes maxL (some .int) :: BW) ({ frames := F, cells := mc, slots := ms, locals := L0 }) (xPc E (.ref (E.2.1 0) :: As) (wX E g a) sz) (xQi E r (wX E g1 a1) A) mc ms A) (hcode : Cond.code y bytes maxL (some .int) ∈ BW) (hlink : Cond.methodLink RL index y ∈ BW) (hini : Cond.initialized y.cls ∈ BW) (hin : Cond.instanceMethod y ∈ BW) (hsel : Cond.selects RX11 y y ∈ BW)
    (hd : y.cls ≠ "java/lang/invoke/MethodHandle" ∧ y.cls ≠ "java/lang/invoke/VarHandle" ∧ (parseMethodDescriptor y.desc).map (fun d => d.parameters.length) = some k) (hR : F + 1 ≤ room_1.frames ∧ 8 + (maxL + 11) + L0 ≤ room_1.locals)
    (hP : va_P E.1 vwCl (wL E qm g a bo fo gm am) H) (hD : va_D (A0 s) (wL E qm g a bo fo gm am)) (hS : va_S (A0 s) s.heap H locs) (hn : As.length = k) (hsize : ls.size = 8) (hst : st = As.reverse ++ .ref (E.2.1 0) :: rest) (hW : (rest.map fun v => v.category).sum ≤ 8) (hdg : decode code pc = .ok (.invokevirtual index, 3)) (hf : cells + mc ≤ room_1.cells ∧ slots + ms ≤ room_1.slots)
    (kk : ∀ (H1 : Heap) (locs1 : List Loc), va_P E.1 vwCl (wL E qm g1 a1 bo fo gm am) H1 → va_S (A0 s) s.heap H1 locs1 → W p l e room_1 s m #[Value.ref b] below meth c H1 locs1 (cells + mc) (slots + ms) Q (F0 m (pc + 3) ls (.int r :: rest))) : W p l e room_1 s m #[Value.ref b] below meth c H locs cells slots Q (F0 m pc ls st) := by
  have hP0 : va_P E.1 vwCl (wX E g a ++ (oC E bo fo ++ wM (Eq_ E qm) gm am)) H := by rw [← List.append_assoc]; exact hP
  have hD0 : va_D (A0 s) (wX E g a ++ (oC E bo fo ++ wM (Eq_ E qm) gm am)) := by rw [← List.append_assoc]; exact hD
  have hr := lRunV (e := e) (below := below) (meth := meth) (rest := rest) (cells := cells) (slots := slots) ⟨rfl, rfl⟩ C0 hM hcode hlink hini hin hsel hd hR hP0 hD0 hS (va_recv C0.2.2.2.2.2.1 hP (ci := 11) rfl (go_X (go_X (gx_0 E g a)))) hn hsize hst hW hdg hf
  exact va_calli hr hS (fun q _ h => h.1) frA_A (fun r1 _ t H1 locs1 ht _ hp hB _ hk hS1 => by
    subst hp
    have h9 := frP hP0 hk (by rw [← ht]; exact hB)
    rw [← List.append_assoc] at h9
    exact kk H1 locs1 h9 hS1)
theorem lcM {r : Int32} {ret : Option FieldType} (C0 : lwC p l s m c b L xs E) (hM : ∀ (sz : Nat) (A : Nat → Prop), (∀ q, sz ≤ q → A q) → va_D A (wM (Eq_ E qm) gm am) → Met l y (.code y bytes maxL ret :: BW) ({ frames := F, cells := mc, slots := ms, locals := L0 }) (xPc (Eq_ E qm) (.ref ((Eq_ E qm).2.1 0) :: As) (wM (Eq_ E qm) gm am) sz) (xQi (Eq_ E qm) r (wM (Eq_ E qm) gm1 am1) A) mc ms A) (hcode : Cond.code y bytes maxL ret ∈ BW) (hlink : Cond.methodLink RL index y ∈ BW) (hini : Cond.initialized y.cls ∈ BW) (hin : Cond.instanceMethod y ∈ BW) (hsel : Cond.selects RX12 y y ∈ BW)
    (hd : y.cls ≠ "java/lang/invoke/MethodHandle" ∧ y.cls ≠ "java/lang/invoke/VarHandle" ∧ (parseMethodDescriptor y.desc).map (fun d => d.parameters.length) = some k) (hR : F + 1 ≤ room_1.frames ∧ 8 + (maxL + 11) + L0 ≤ room_1.locals)
    (hP : va_P E.1 vwCl (wL E qm g a bo fo gm am) H) (hD : va_D (A0 s) (wL E qm g a bo fo gm am)) (hS : va_S (A0 s) s.heap H locs) (hn : As.length = k) (hsize : ls.size = 8) (hst : st = As.reverse ++ .ref ((Eq_ E qm).2.1 0) :: rest) (hW : (rest.map fun v => v.category).sum ≤ 8) (hdg : decode code pc = .ok (.invokevirtual index, 3)) (hf : cells + mc ≤ room_1.cells ∧ slots + ms ≤ room_1.slots)
    (kk : ∀ (H1 : Heap) (locs1 : List Loc), va_P E.1 vwCl (wL E qm g a bo fo gm1 am1) H1 → va_S (A0 s) s.heap H1 locs1 → W p l e room_1 s m #[Value.ref b] below meth c H1 locs1 (cells + mc) (slots + ms) Q (F0 m (pc + 3) ls (.int r :: rest))) : W p l e room_1 s m #[Value.ref b] below meth c H locs cells slots Q (F0 m pc ls st) := by
  have hP0 := P_swap hP
  have hr := lRunV (e := e) (below := below) (meth := meth) (rest := rest) (cells := cells) (slots := slots) (E := E) (E0 := Eq_ E qm) ⟨rfl, rfl⟩ C0 hM hcode hlink hini hin hsel hd hR hP0 (D_swap hD) hS (va_recv C0.2.2.2.2.2.1 hP0 (ci := 12) rfl (go_M (gm_0 (Eq_ E qm) gm am))) hn hsize hst hW hdg hf
  exact va_calli hr hS (fun q _ h => h.1) frA_A (fun r1 _ t H1 locs1 ht _ hp hB _ hk hS1 => by
    subst hp
    exact kk H1 locs1 (P_swap (frP hP0 hk (by rw [← ht]; exact hB))) hS1)
theorem lcMl {r : Int64} (C0 : lwC p l s m c b L xs E) (hM : ∀ (sz : Nat) (A : Nat → Prop), (∀ q, sz ≤ q → A q) → va_D A (wM (Eq_ E qm) gm am) → Met l y (.code y bytes maxL (some .long) :: BW) ({ frames := F, cells := mc, slots := ms, locals := L0 }) (xPc (Eq_ E qm) (.ref ((Eq_ E qm).2.1 0) :: As) (wM (Eq_ E qm) gm am) sz) (xQl (Eq_ E qm) r (wM (Eq_ E qm) gm1 am1) A) mc ms A) (hcode : Cond.code y bytes maxL (some .long) ∈ BW) (hlink : Cond.methodLink RL index y ∈ BW) (hini : Cond.initialized y.cls ∈ BW) (hin : Cond.instanceMethod y ∈ BW) (hsel : Cond.selects RX12 y y ∈ BW)
    (hd : y.cls ≠ "java/lang/invoke/MethodHandle" ∧ y.cls ≠ "java/lang/invoke/VarHandle" ∧ (parseMethodDescriptor y.desc).map (fun d => d.parameters.length) = some k) (hR : F + 1 ≤ room_1.frames ∧ 8 + (maxL + 11) + L0 ≤ room_1.locals)
    (hP : va_P E.1 vwCl (wL E qm g a bo fo gm am) H) (hD : va_D (A0 s) (wL E qm g a bo fo gm am)) (hS : va_S (A0 s) s.heap H locs) (hn : As.length = k) (hsize : ls.size = 8) (hst : st = As.reverse ++ .ref ((Eq_ E qm).2.1 0) :: rest) (hW : (rest.map fun v => v.category).sum ≤ 8) (hdg : decode code pc = .ok (.invokevirtual index, 3)) (hf : cells + mc ≤ room_1.cells ∧ slots + ms ≤ room_1.slots)
    (kk : ∀ (H1 : Heap) (locs1 : List Loc), va_P E.1 vwCl (wL E qm g a bo fo gm1 am1) H1 → va_S (A0 s) s.heap H1 locs1 → W p l e room_1 s m #[Value.ref b] below meth c H1 locs1 (cells + mc) (slots + ms) Q (F0 m (pc + 3) ls (.long r :: rest))) : W p l e room_1 s m #[Value.ref b] below meth c H locs cells slots Q (F0 m pc ls st) := by
  have hP0 := P_swap hP
  have hr := lRunV (e := e) (below := below) (meth := meth) (rest := rest) (cells := cells) (slots := slots) (E := E) (E0 := Eq_ E qm) ⟨rfl, rfl⟩ C0 hM hcode hlink hini hin hsel hd hR hP0 (D_swap hD) hS (va_recv C0.2.2.2.2.2.1 hP0 (ci := 12) rfl (go_M (gm_0 (Eq_ E qm) gm am))) hn hsize hst hW hdg hf
  exact va_calll hr hS (fun q _ h => h.1) frA_A (fun r1 _ t H1 locs1 ht _ hp hB _ hk hS1 => by
    subst hp
    exact kk H1 locs1 (P_swap (frP hP0 hk (by rw [← ht]; exact hB))) hS1)
theorem lcW (C0 : lwC p l s m c b L xs E) (hM : xW l E y bytes maxL hh F L0 As (wX E g a ++ oC E bo fo) r (wX E g1 a1 ++ oC E bo f1)) (hcode : Cond.codeWith y bytes maxL (some .int) hh ∈ BW) (hlink : Cond.methodLink RL index y ∈ BW) (hini : Cond.initialized y.cls ∈ BW) (hstt : Cond.static y ∈ BW)
    (hd : y.cls ≠ "java/lang/invoke/MethodHandle" ∧ y.cls ≠ "java/lang/invoke/VarHandle" ∧ (parseMethodDescriptor y.desc).map (fun d => d.parameters.length) = some k) (hR : F + 1 ≤ room_1.frames ∧ 8 + (maxL + 11) + L0 ≤ room_1.locals)
    (hP : va_P E.1 vwCl (wL E qm g a bo fo gm am) H) (hD : va_D (A0 s) (wL E qm g a bo fo gm am)) (hS : va_S (A0 s) s.heap H locs) (hn : As.length = k) (hsize : ls.size = 8) (hst : st = As.reverse ++ rest) (hW : (rest.map fun v => v.category).sum ≤ 8) (hdg : decode code pc = .ok (.invokestatic index, 3)) (hf : cells + 1 ≤ room_1.cells ∧ slots + 6 ≤ room_1.slots)
    (kk : ∀ (H1 : Heap) (locs1 : List Loc), va_P E.1 vwCl (wL E qm g1 a1 bo f1 gm am) H1 → va_S (A0 s) s.heap H1 locs1 → W p l e room_1 s m #[Value.ref b] below meth c H1 locs1 (cells + 1) (slots + 6) Q (F0 m (pc + 3) ls (.int r :: rest))) : W p l e room_1 s m #[Value.ref b] below meth c H locs cells slots Q (F0 m pc ls st) := by
  obtain ⟨hx, hb, hml, hown, hw, hK, hN, hT, hst0, hz, hnc, -, -, -⟩ := C0
  have hA : ∀ q, s.heap.size ≤ q → A0 s q := fun _ h => h
  have hcw : vx_CSW room_1 s #[Value.ref b] RL index y bytes maxL (some .int) hh (.codeWith y bytes maxL (some .int) hh :: BW) ({ frames := F, cells := 1, slots := 6, locals := L0 }) 1 6 k := by
    refine ⟨⟨rfl, rfl, hR.1, hR.2, xpay hw (fun w h => h) hcode, List.mem_cons_self⟩, hw _ hcode, hw _ hini, ⟨hd.1, hd.2.1⟩, fun sig h => ?_, hw _ hlink, hw _ hstt⟩
    have h2 := hd.2.2
    rw [h] at h2
    exact (Option.some.inj h2).symm
  have hr := vx_runSW (l := l) (e := e) (R := room_1) (below := below) (meth := meth) (H := H) (locs := locs) (cells := cells) (slots := slots) (Ts := BW) (As := As) (rest := rest) (g := F0 m pc ls st) ⟨hx, hb, hml, hown, hw⟩ (hM H.size (frA (A0 s) (wM (Eq_ E qm) gm am)) (frA_new hP (fun q hq => hA q (Nat.le_trans hS.1 hq))) (frA_D hD)) hcw ⟨xPw.blind, fun U hU hW => ⟨rfl, by rw [hU], by rw [hU]; exact frP0 hP, va_K.moved hW.alike hK, hN.moved hW, hT.moved hW.alike, hst0.moved hW, by rw [hU]; exact ((hz.kept (fun q h1 h2 => hS.2.1 q h1 h2)).narrow frA_A).moved hW.alike, hnc.moved hW.alike⟩⟩ rfl hn hsize hst (lv_room hW) hdg hf
  exact va_calli hr hS (fun q _ h => h.1) frA_A (fun r1 _ t H1 locs1 ht _ hp hB _ hk hS1 => by
    subst hp
    exact kk H1 locs1 (frP hP hk (by rw [← ht]; exact hB)) hS1)
theorem go_L : (wL E qm g a bo fo gm am)[54]? = some (bo, .inl (E.2.2 3, (1, .inr (.inl fo)))) := rfl
end LC
def ob_values (I : xG → xA → xG → xA → Prop) : Prop := ∀ (g : xG) (a : xA) (gm : xG) (am : xA) (v1 : Int32), I g a gm am → (∃ (z : Int32 × xG × xA) (zm : Int32 × xG), f_X11_values g a v1 = some (.inr z) ∧ t_X12_values gm am v1 = zm ∧ t_X12_thrown zm.2 am = 0 ∧ z.1 = zm.1 ∧ I z.2.1 z.2.2 zm.2 am) ∨ (∃ (z : Nat × xG × xA) (zm : Int32 × xG), f_X11_values g a v1 = some (.inl z) ∧ z.1 = 1 ∧ t_X12_values gm am v1 = zm ∧ t_X12_thrown zm.2 am = 1 ∧ I z.2.1 z.2.2 zm.2 am)
def ob_relation (I : xG → xA → xG → xA → Prop) : Prop := ∀ (g : xG) (a : xA) (gm : xG) (am : xA) (v1 : Int32), I g a gm am → (∃ (z : Int32 × xG × xA) (zm : Int32 × xG × xA), f_X11_relation g a v1 = some (.inr z) ∧ f_X12_relation gm am v1 = some zm ∧ t_X12_thrown zm.2.1 zm.2.2 = 0 ∧ z.1 = zm.1 ∧ I z.2.1 z.2.2 zm.2.1 zm.2.2) ∨ (∃ (z : Nat × xG × xA) (zm : Int32 × xG × xA), f_X11_relation g a v1 = some (.inl z) ∧ z.1 = 1 ∧ f_X12_relation gm am v1 = some zm ∧ t_X12_thrown zm.2.1 zm.2.2 = 1 ∧ I z.2.1 z.2.2 zm.2.1 zm.2.2) ∨ (∃ (z : Nat × xG × xA) (zm : Int32 × xG × xA), f_X11_relation g a v1 = some (.inl z) ∧ z.1 = 2 ∧ f_X12_relation gm am v1 = some zm ∧ t_X12_thrown zm.2.1 zm.2.2 = 2 ∧ I z.2.1 z.2.2 zm.2.1 zm.2.2)
def ob_tuple (I : xG → xA → xG → xA → Prop) : Prop := ∀ (g : xG) (a : xA) (gm : xG) (am : xA) (v1 : Int32) (v2 : Int32) (v3 : Int32), I g a gm am → (∃ (z : Int32 × xA) (zm : Int32 × xG × xA), f_X11_tuple g a v1 v2 v3 = some (.inr z) ∧ f_X12_tuple gm am v1 v2 v3 = some zm ∧ t_X12_thrown zm.2.1 zm.2.2 = 0 ∧ z.1 = zm.1 ∧ I g z.2 zm.2.1 zm.2.2) ∨ (∃ (z : Nat × xA) (zm : Int32 × xG × xA), f_X11_tuple g a v1 v2 v3 = some (.inl z) ∧ z.1 = 3 ∧ f_X12_tuple gm am v1 v2 v3 = some zm ∧ t_X12_thrown zm.2.1 zm.2.2 = 1 ∧ I g z.2 zm.2.1 zm.2.2)
def ob_ofRelation (I : xG → xA → xG → xA → Prop) : Prop := ∀ (g : xG) (a : xA) (gm : xG) (am : xA) (v1 : Int32) (v2 : Int32), I g a gm am → (∃ (z : Int32) (zm : Int32 × xG), f_X11_ofRelation g a v1 v2 = some (.inr z) ∧ f_X12_ofRelation gm am v1 v2 = some zm ∧ t_X12_thrown zm.2 am = 0 ∧ z = zm.1 ∧ I g a zm.2 am) ∨ (∃ (z : Nat) (zm : Int32 × xG), f_X11_ofRelation g a v1 v2 = some (.inl z) ∧ z = 3 ∧ f_X12_ofRelation gm am v1 v2 = some zm ∧ t_X12_thrown zm.2 am = 1 ∧ I g a zm.2 am) ∨ (∃ (z : Nat) (zm : Int32 × xG), f_X11_ofRelation g a v1 v2 = some (.inl z) ∧ z = 1 ∧ f_X12_ofRelation gm am v1 v2 = some zm ∧ t_X12_thrown zm.2 am = 2 ∧ I g a zm.2 am)
def ob_operation (I : xG → xA → xG → xA → Prop) : Prop := ∀ (g : xG) (a : xA) (gm : xG) (am : xA) (v1 : Int32), I g a gm am → (∃ (z : Int32 × xG × xA) (zm : Int32 × xG × xA), f_X11_operation g a v1 = some (.inr z) ∧ f_X12_operation gm am v1 = some zm ∧ t_X12_thrown zm.2.1 zm.2.2 = 0 ∧ z.1 = zm.1 ∧ I z.2.1 z.2.2 zm.2.1 zm.2.2) ∨ (∃ (z : Nat × xG × xA) (zm : Int32 × xG × xA), f_X11_operation g a v1 = some (.inl z) ∧ z.1 = 1 ∧ f_X12_operation gm am v1 = some zm ∧ t_X12_thrown zm.2.1 zm.2.2 = 1 ∧ I z.2.1 z.2.2 zm.2.1 zm.2.2) ∨ (∃ (z : Nat × xG × xA) (zm : Int32 × xG × xA), f_X11_operation g a v1 = some (.inl z) ∧ z.1 = 2 ∧ f_X12_operation gm am v1 = some zm ∧ t_X12_thrown zm.2.1 zm.2.2 = 2 ∧ I z.2.1 z.2.2 zm.2.1 zm.2.2)
def ob_make (I : xG → xA → xG → xA → Prop) : Prop := ∀ (g : xG) (a : xA) (gm : xG) (am : xA) (v1 : Int32), I g a gm am → (∃ (z : Int32 × xG × xA) (zm : Int32 × xG × xA), f_X11_make g a v1 = some (.inr z) ∧ f_X12_make gm am v1 = some zm ∧ t_X12_thrown zm.2.1 zm.2.2 = 0 ∧ z.1 = zm.1 ∧ I z.2.1 z.2.2 zm.2.1 zm.2.2) ∨ (∃ (z : Nat × xG × xA) (zm : Int32 × xG × xA), f_X11_make g a v1 = some (.inl z) ∧ z.1 = 1 ∧ f_X12_make gm am v1 = some zm ∧ t_X12_thrown zm.2.1 zm.2.2 = 1 ∧ I z.2.1 z.2.2 zm.2.1 zm.2.2) ∨ (∃ (z : Nat × xG × xA) (zm : Int32 × xG × xA), f_X11_make g a v1 = some (.inl z) ∧ z.1 = 2 ∧ f_X12_make gm am v1 = some zm ∧ t_X12_thrown zm.2.1 zm.2.2 = 2 ∧ I z.2.1 z.2.2 zm.2.1 zm.2.2)
def ob_answers (I : xG → xA → xG → xA → Prop) : Prop := ∀ (g : xG) (a : xA) (gm : xG) (am : xA) (v1 : Int32) (v2 : Int32) (v3 : Int32), I g a gm am → (∃ (z : Int32 × xA) (zm : Int32 × xG × xA), f_X11_answers g a v1 v2 v3 = some (.inr z) ∧ f_X12_answers gm am v1 v2 v3 = some zm ∧ t_X12_thrown zm.2.1 zm.2.2 = 0 ∧ z.1 = zm.1 ∧ I g z.2 zm.2.1 zm.2.2) ∨ (∃ (z : Nat × xA) (zm : Int32 × xG × xA), f_X11_answers g a v1 v2 v3 = some (.inl z) ∧ z.1 = 3 ∧ f_X12_answers gm am v1 v2 v3 = some zm ∧ t_X12_thrown zm.2.1 zm.2.2 = 1 ∧ I g z.2 zm.2.1 zm.2.2) ∨ (∃ (z : Nat × xA) (zm : Int32 × xG × xA), f_X11_answers g a v1 v2 v3 = some (.inl z) ∧ z.1 = 1 ∧ f_X12_answers gm am v1 v2 v3 = some zm ∧ t_X12_thrown zm.2.1 zm.2.2 = 2 ∧ I g z.2 zm.2.1 zm.2.2)
def ob_code (I : xG → xA → xG → xA → Prop) : Prop := ∀ (g : xG) (a : xA) (gm : xG) (am : xA) (v1 : Int32), I g a gm am → (∃ (z : Int64) (zm : Int64 × xG), f_X11_code g a v1 = some (.inr z) ∧ f_X12_code gm am v1 = some zm ∧ t_X12_thrown zm.2 am = 0 ∧ z = zm.1 ∧ I g a zm.2 am) ∨ (∃ (z : Nat) (zm : Int64 × xG), f_X11_code g a v1 = some (.inl z) ∧ z = 3 ∧ f_X12_code gm am v1 = some zm ∧ t_X12_thrown zm.2 am = 1 ∧ I g a zm.2 am)
def ob_keeps (I : xG → xA → xG → xA → Prop) : Prop := ∀ (g : xG) (a : xA) (gm : xG) (am : xA) (v1 : Int32) (v2 : Int32), I g a gm am → (∃ (z : Int32 × xG × xA) (zm : Int32 × xG × xA), f_X11_keeps g a v1 v2 = some (.inr z) ∧ f_X12_keeps gm am v1 v2 = some zm ∧ t_X12_thrown zm.2.1 zm.2.2 = 0 ∧ z.1 = zm.1 ∧ I z.2.1 z.2.2 zm.2.1 zm.2.2) ∨ (∃ (z : Nat × xG × xA) (zm : Int32 × xG × xA), f_X11_keeps g a v1 v2 = some (.inl z) ∧ z.1 = 3 ∧ f_X12_keeps gm am v1 v2 = some zm ∧ t_X12_thrown zm.2.1 zm.2.2 = 1 ∧ I z.2.1 z.2.2 zm.2.1 zm.2.2)
def ob_breaks (I : xG → xA → xG → xA → Prop) : Prop := ∀ (g : xG) (a : xA) (gm : xG) (am : xA) (v1 : Int32) (v2 : Int32), I g a gm am → (∃ (z : Int32 × xG × xA) (zm : Int32 × xG × xA), f_X11_breaks g a v1 v2 = some (.inr z) ∧ f_X12_breaks gm am v1 v2 = some zm ∧ t_X12_thrown zm.2.1 zm.2.2 = 0 ∧ z.1 = zm.1 ∧ I z.2.1 z.2.2 zm.2.1 zm.2.2) ∨ (∃ (z : Nat × xG × xA) (zm : Int32 × xG × xA), f_X11_breaks g a v1 v2 = some (.inl z) ∧ z.1 = 3 ∧ f_X12_breaks gm am v1 v2 = some zm ∧ t_X12_thrown zm.2.1 zm.2.2 = 1 ∧ I z.2.1 z.2.2 zm.2.1 zm.2.2)
def ob_has (I : xG → xA → xG → xA → Prop) : Prop := ∀ (g : xG) (a : xA) (gm : xG) (am : xA) (v1 : Int32) (v2 : Int32), I g a gm am → (∃ (z : Int32) (zm : Int32 × xG), f_X11_has g a v1 v2 = some (.inr z) ∧ f_X12_has gm am v1 v2 = some zm ∧ t_X12_thrown zm.2 am = 0 ∧ z = zm.1 ∧ I g a zm.2 am) ∨ (∃ (z : Nat) (zm : Int32 × xG), f_X11_has g a v1 v2 = some (.inl z) ∧ z = 3 ∧ f_X12_has gm am v1 v2 = some zm ∧ t_X12_thrown zm.2 am = 1 ∧ I g a zm.2 am) ∨ (∃ (z : Nat) (zm : Int32 × xG), f_X11_has g a v1 v2 = some (.inl z) ∧ z = 1 ∧ f_X12_has gm am v1 v2 = some zm ∧ t_X12_thrown zm.2 am = 2 ∧ I g a zm.2 am)
def ob_closed (I : xG → xA → xG → xA → Prop) : Prop := ∀ (g : xG) (a : xA) (gm : xG) (am : xA) (v1 : Int32) (v2 : Int32), I g a gm am → (∃ (z : Int32 × xG × xA) (zm : Int32 × xG × xA), f_X11_closed g a v1 v2 = some (.inr z) ∧ f_X12_closed gm am v1 v2 = some zm ∧ t_X12_thrown zm.2.1 zm.2.2 = 0 ∧ z.1 = zm.1 ∧ I z.2.1 z.2.2 zm.2.1 zm.2.2) ∨ (∃ (z : Nat × xG × xA) (zm : Int32 × xG × xA), f_X11_closed g a v1 v2 = some (.inl z) ∧ z.1 = 3 ∧ f_X12_closed gm am v1 v2 = some zm ∧ t_X12_thrown zm.2.1 zm.2.2 = 1 ∧ I z.2.1 z.2.2 zm.2.1 zm.2.2)
def ob_monoid (I : xG → xA → xG → xA → Prop) : Prop := ∀ (g : xG) (a : xA) (gm : xG) (am : xA), I g a gm am → ∃ (z : Int32 × xG × xA) (zm : Int32 × xA), f_X11_monoid g a = some z ∧ f_X12_monoid gm am = some zm ∧ z.1 = zm.1 ∧ I z.2.1 z.2.2 (upd gm 8 0) zm.2
def ob_binary (I : xG → xA → xG → xA → Prop) : Prop := ∀ (g : xG) (a : xA) (gm : xG) (am : xA), I g a gm am → (∃ (z : Int32 × xG × xA) (zm : Int32 × xG × xA), f_X11_binary g a = some (.inr z) ∧ f_X12_binary gm am = some zm ∧ t_X12_thrown zm.2.1 zm.2.2 = 0 ∧ z.1 = zm.1 ∧ I z.2.1 z.2.2 zm.2.1 zm.2.2) ∨ (∃ (z : Nat × xG × xA) (zm : Int32 × xG × xA), f_X11_binary g a = some (.inl z) ∧ z.1 = 2 ∧ f_X12_binary gm am = some zm ∧ t_X12_thrown zm.2.1 zm.2.2 = 1 ∧ I z.2.1 z.2.2 zm.2.1 zm.2.2)
def ob_kept (I : xG → xA → xG → xA → Prop) : Prop := ∀ (g : xG) (a : xA) (gm : xG) (am : xA) (v1 : Int32), I g a gm am → (∃ (z : Int32 × xG × xA) (zm : Int32 × xG × xA), f_X11_kept g a v1 = some (.inr z) ∧ f_X12_kept gm am v1 = some zm ∧ t_X12_thrown zm.2.1 zm.2.2 = 0 ∧ z.1 = zm.1 ∧ I z.2.1 z.2.2 zm.2.1 zm.2.2) ∨ (∃ (z : Nat × xG × xA) (zm : Int32 × xG × xA), f_X11_kept g a v1 = some (.inl z) ∧ z.1 = 1 ∧ f_X12_kept gm am v1 = some zm ∧ t_X12_thrown zm.2.1 zm.2.2 = 1 ∧ I z.2.1 z.2.2 zm.2.1 zm.2.2)
def ob_first (I : xG → xA → xG → xA → Prop) : Prop := ∀ (g : xG) (a : xA) (gm : xG) (am : xA) (v1 : Int32), I g a gm am → (∃ (z : Int64 × xG × xA) (zm : Int64 × xG × xA), f_X11_first g a v1 = some (.inr z) ∧ f_X12_first gm am v1 = some zm ∧ t_X12_thrown zm.2.1 zm.2.2 = 0 ∧ z.1 = zm.1 ∧ I z.2.1 z.2.2 zm.2.1 zm.2.2) ∨ (∃ (z : Nat × xG × xA) (zm : Int64 × xG × xA), f_X11_first g a v1 = some (.inl z) ∧ z.1 = 1 ∧ f_X12_first gm am v1 = some zm ∧ t_X12_thrown zm.2.1 zm.2.2 = 1 ∧ I z.2.1 z.2.2 zm.2.1 zm.2.2)
def ob_ends (I : xG → xA → xG → xA → Prop) : Prop := ∀ (g : xG) (a : xA) (gm : xG) (am : xA), I g a gm am → ∃ (z : Int32 × xG × xA) (zm : Int32 × xG × xA), f_X11_ends g a = some z ∧ f_X12_ends gm am = some zm ∧ z.1 = zm.1 ∧ I z.2.1 z.2.2 zm.2.1 zm.2.2
def ob_core (I : xG → xA → xG → xA → Prop) : Prop := ∀ (g : xG) (a : xA) (gm : xG) (am : xA), I g a gm am → ∃ (z : Int32 × xG × xA) (zm : Int32 × xG × xA), f_X11_core g a = some z ∧ f_X12_core gm am = some zm ∧ z.1 = zm.1 ∧ I z.2.1 z.2.2 zm.2.1 zm.2.2
def ob_around (I : xG → xA → xG → xA → Prop) : Prop := ∀ (g : xG) (a : xA) (gm : xG) (am : xA) (v1 : Int32), I g a gm am → (∃ (z : Int32 × xG × xA) (zm : Int32 × xG × xA), f_X11_around g a v1 = some (.inr z) ∧ f_X12_around gm am v1 = some zm ∧ t_X12_thrown zm.2.1 zm.2.2 = 0 ∧ z.1 = zm.1 ∧ I z.2.1 z.2.2 zm.2.1 zm.2.2) ∨ (∃ (z : Nat × xG × xA) (zm : Int32 × xG × xA), f_X11_around g a v1 = some (.inl z) ∧ z.1 = 3 ∧ f_X12_around gm am v1 = some zm ∧ t_X12_thrown zm.2.1 zm.2.2 = 1 ∧ I z.2.1 z.2.2 zm.2.1 zm.2.2) ∨ (∃ (z : Nat × xG × xA) (zm : Int32 × xG × xA), f_X11_around g a v1 = some (.inl z) ∧ z.1 = 2 ∧ f_X12_around gm am v1 = some zm ∧ t_X12_thrown zm.2.1 zm.2.2 = 2 ∧ I z.2.1 z.2.2 zm.2.1 zm.2.2)
def ob_type (I : xG → xA → xG → xA → Prop) : Prop := ∀ (g : xG) (a : xA) (gm : xG) (am : xA) (v1 : Int64) (v3 : Int32), I g a gm am → (∃ (z : Int32 × xG × xA) (zm : Int32 × xG × xA), f_X11_type g a v1 v3 = some (.inr z) ∧ f_X12_type gm am v1 v3 = some zm ∧ t_X12_thrown zm.2.1 zm.2.2 = 0 ∧ z.1 = zm.1 ∧ I z.2.1 z.2.2 zm.2.1 zm.2.2) ∨ (∃ (z : Nat × xG × xA) (zm : Int32 × xG × xA), f_X11_type g a v1 v3 = some (.inl z) ∧ z.1 = 1 ∧ f_X12_type gm am v1 v3 = some zm ∧ t_X12_thrown zm.2.1 zm.2.2 = 1 ∧ I z.2.1 z.2.2 zm.2.1 zm.2.2) ∨ (∃ (z : Nat × xG × xA) (zm : Int32 × xG × xA), f_X11_type g a v1 v3 = some (.inl z) ∧ z.1 = 2 ∧ f_X12_type gm am v1 v3 = some zm ∧ t_X12_thrown zm.2.1 zm.2.2 = 2 ∧ I z.2.1 z.2.2 zm.2.1 zm.2.2)
def ob_wipe (I : xG → xA → xG → xA → Prop) : Prop := ∀ (g : xG) (a : xA) (gm : xG) (am : xA), I g a gm am → ∃ (z : Int32 × xG) (zm : Int32 × xG), t_X11_wipe g a = z ∧ t_X12_wipe gm am = zm ∧ z.1 = zm.1 ∧ I z.2 a zm.2 am
def ob_fault (I : xG → xA → xG → xA → Prop) : Prop := ∀ (g : xG) (a : xA) (gm : xG) (am : xA), I g a gm am → ∃ (z : Int32 × xG × xA) (zm : Int32 × xG × xA), f_X11_fault g a = some z ∧ f_X12_fault gm am = some zm ∧ z.1 = zm.1 ∧ I z.2.1 z.2.2 zm.2.1 zm.2.2
def ob_define (I : xG → xA → xG → xA → Prop) : Prop := ∀ (g : xG) (a : xA) (gm : xG) (am : xA), I g a gm am → (∃ (z : Int32 × xG × xA) (zm : Int32 × xG × xA), f_X11_define g a = some (.inr z) ∧ f_X12_define gm am = some zm ∧ t_X12_thrown zm.2.1 zm.2.2 = 0 ∧ z.1 = zm.1 ∧ I z.2.1 z.2.2 zm.2.1 zm.2.2) ∨ (∃ (z : Nat × xG × xA) (zm : Int32 × xG × xA), f_X11_define g a = some (.inl z) ∧ z.1 = 1 ∧ f_X12_define gm am = some zm ∧ t_X12_thrown zm.2.1 zm.2.2 = 1 ∧ I z.2.1 z.2.2 zm.2.1 zm.2.2) ∨ (∃ (z : Nat × xG × xA) (zm : Int32 × xG × xA), f_X11_define g a = some (.inl z) ∧ z.1 = 2 ∧ f_X12_define gm am = some zm ∧ t_X12_thrown zm.2.1 zm.2.2 = 2 ∧ I z.2.1 z.2.2 zm.2.1 zm.2.2)
def ob_instance (I : xG → xA → xG → xA → Prop) : Prop := ∀ (g : xG) (a : xA) (gm : xG) (am : xA) (v1 : Int32), I g a gm am → (∃ (z : Int32 × xG) (zm : Int32 × xG), f_X11_instance g a v1 = some (.inr z) ∧ t_X12_instance gm am v1 = zm ∧ t_X12_thrown zm.2 am = 0 ∧ z.1 = zm.1 ∧ I z.2 a zm.2 am) ∨ (∃ (z : Nat × xG) (zm : Int32 × xG), f_X11_instance g a v1 = some (.inl z) ∧ z.1 = 1 ∧ t_X12_instance gm am v1 = zm ∧ t_X12_thrown zm.2 am = 1 ∧ I z.2 a zm.2 am)
def ob_constrain (I : xG → xA → xG → xA → Prop) : Prop := ∀ (g : xG) (a : xA) (gm : xG) (am : xA) (v1 : Int32) (v2 : Int32) (v3 : Int32) (v4 : Int32), I g a gm am → (∃ (z : Int32 × xG × xA) (zm : Int32 × xG × xA), f_X11_constrain g a v1 v2 v3 v4 = some (.inr z) ∧ f_X12_constrain gm am v1 v2 v3 v4 = some zm ∧ t_X12_thrown zm.2.1 zm.2.2 = 0 ∧ z.1 = zm.1 ∧ I z.2.1 z.2.2 zm.2.1 zm.2.2) ∨ (∃ (z : Nat × xG × xA) (zm : Int32 × xG × xA), f_X11_constrain g a v1 v2 v3 v4 = some (.inl z) ∧ z.1 = 3 ∧ f_X12_constrain gm am v1 v2 v3 v4 = some zm ∧ t_X12_thrown zm.2.1 zm.2.2 = 1 ∧ I z.2.1 z.2.2 zm.2.1 zm.2.2) ∨ (∃ (z : Nat × xG × xA) (zm : Int32 × xG × xA), f_X11_constrain g a v1 v2 v3 v4 = some (.inl z) ∧ z.1 = 1 ∧ f_X12_constrain gm am v1 v2 v3 v4 = some zm ∧ t_X12_thrown zm.2.1 zm.2.2 = 2 ∧ I z.2.1 z.2.2 zm.2.1 zm.2.2) ∨ (∃ (z : Nat × xG × xA) (zm : Int32 × xG × xA), f_X11_constrain g a v1 v2 v3 v4 = some (.inl z) ∧ z.1 = 2 ∧ f_X12_constrain gm am v1 v2 v3 v4 = some zm ∧ t_X12_thrown zm.2.1 zm.2.2 = 3 ∧ I z.2.1 z.2.2 zm.2.1 zm.2.2)
def ob_solutions (I : xG → xA → xG → xA → Prop) : Prop := ∀ (g : xG) (a : xA) (gm : xG) (am : xA), I g a gm am → ∃ (z : Int32 × xA) (zm : Int32 × xG), f_X11_solutions g a = some z ∧ f_X12_solutions gm am = some zm ∧ z.1 = zm.1 ∧ I g z.2 zm.2 am
def ob_solutionsAnew (I : xG → xA → xG → xA → Prop) : Prop := ∀ (g : xG) (a : xA) (gm : xG) (am : xA), I g a gm am → ∃ (z : Int32 × xA) (zm : Int32 × xG), f_X11_solutionsAnew g a = some z ∧ f_X12_solutionsAnew gm am = some zm ∧ z.1 = zm.1 ∧ I g z.2 zm.2 am
def ob_solve (I : xG → xA → xG → xA → Prop) : Prop := ∀ (g : xG) (a : xA) (gm : xG) (am : xA), I g a gm am → ∃ (z : Int32 × xA) (zm : Int32 × xG), f_X11_solve g a = some z ∧ f_X12_solve gm am = some zm ∧ z.1 = zm.1 ∧ I g z.2 zm.2 am
def ob_left (I : xG → xA → xG → xA → Prop) : Prop := ∀ (g : xG) (a : xA) (gm : xG) (am : xA) (v1 : Int32), I g a gm am → (∃ (z : Int32 × xA) (zm : Int32 × xG × xA), f_X11_left g a v1 = some (.inr z) ∧ f_X12_left gm am v1 = some zm ∧ t_X12_thrown zm.2.1 zm.2.2 = 0 ∧ z.1 = zm.1 ∧ I g z.2 zm.2.1 zm.2.2) ∨ (∃ (z : Nat × xA) (zm : Int32 × xG × xA), f_X11_left g a v1 = some (.inl z) ∧ z.1 = 3 ∧ f_X12_left gm am v1 = some zm ∧ t_X12_thrown zm.2.1 zm.2.2 = 1 ∧ I g z.2 zm.2.1 zm.2.2)
def ob_pairs (I : xG → xA → xG → xA → Prop) : Prop := ∀ (g : xG) (a : xA) (gm : xG) (am : xA) (v1 : Int32) (v2 : Int32), I g a gm am → (∃ (z : Int32 × xA) (zm : Int32 × xG × xA), f_X11_pairs g a v1 v2 = some (.inr z) ∧ f_X12_pairs gm am v1 v2 = some zm ∧ t_X12_thrown zm.2.1 zm.2.2 = 0 ∧ z.1 = zm.1 ∧ I g z.2 zm.2.1 zm.2.2) ∨ (∃ (z : Nat × xA) (zm : Int32 × xG × xA), f_X11_pairs g a v1 v2 = some (.inl z) ∧ z.1 = 3 ∧ f_X12_pairs gm am v1 v2 = some zm ∧ t_X12_thrown zm.2.1 zm.2.2 = 1 ∧ I g z.2 zm.2.1 zm.2.2) ∨ (∃ (z : Nat × xA) (zm : Int32 × xG × xA), f_X11_pairs g a v1 v2 = some (.inl z) ∧ z.1 = 1 ∧ f_X12_pairs gm am v1 v2 = some zm ∧ t_X12_thrown zm.2.1 zm.2.2 = 2 ∧ I g z.2 zm.2.1 zm.2.2)
set_option maxRecDepth 100000 in
set_option maxHeartbeats 40000000 in
theorem lc_values {p : Program} {l : Launch} {e : Env} {s : State} {m : MethodId} {below : List Frame} {meth : Method} {c : Code} {b L : Nat} {xs : Nat → Int32} {E : xE} (C0 : lwC p l s m c b L xs E) {I : xG → xA → xG → xA → Prop} (O : ob_values I) {g : xG} {a : xA} {gm : xG} {am : xA} (hI : I g a gm am) {i : Nat} {x4 : Int32} (ex4 : x4 = nI i) (hi : i + 5 ≤ L) (hL : L ≤ 2560) {bo : Nat} {fo : Nat → Int64} {qm : Nat → Nat} {H : Heap} {locs : List Loc} {CE SE : Nat} (hCE : CE ≤ 600000) (hSE : SE ≤ 7000000) {Q : State → Prop} (hP : va_P E.1 vwCl (wL E qm g a bo fo gm am) H) (hD : va_D (A0 s) (wL E qm g a bo fo gm am)) (hS : va_S (A0 s) s.heap H locs) {ls : Array Slot} (hl : lv_has ls 8 [(0, .ref b), (1, .ref (E.2.1 0)), (2, .ref ((Eq_ E qm).2.1 0)), (3, .ref bo), (4, .int x4)])
    (hk : ∀ (g : xG) (a : xA) (gm : xG) (am : xA) (fo : Nat → Int64) (H : Heap) (locs : List Loc) (ls : Array Slot), I g a gm am → va_P E.1 vwCl (wL E qm g a bo fo gm am) H → va_S (A0 s) s.heap H locs → lv_has ls 8 [(0, .ref b), (1, .ref (E.2.1 0)), (2, .ref ((Eq_ E qm).2.1 0)), (3, .ref bo), (4, .int x4)] → W p l e room_1 s m #[Value.ref b] below meth c H locs (CE + 2) (SE + 54) Q (F0 m 1719 ls [])) : W p l e room_1 s m #[Value.ref b] below meth c H locs CE SE Q (F0 m 172 ls []) := by
  obtain ⟨hx, hb, hml, hown, hw, hK, hN, hT, hst, hz, hnc, hX, hbl, hstk⟩ := id C0
  have hbA : ¬ (A0 s) b := Nat.not_le.mpr hbl
  have hcs : CE + 1 ≤ room_1.cells ∧ SE + 6 ≤ room_1.slots := ⟨by show _ ≤ 601024; omega, by show _ ≤ 7293033; omega⟩
  refine lv_aload_n hx hb dL_law_172 rfl (lv_at hl 1 rfl) ?_
  refine lv_aload_n hx hb dL_law_173 rfl (lv_at hl 0 rfl) ?_
  refine lv_iload hx hb dL_law_174 (lv_at hl 4 rfl) ?_
  refine lv_iconst (v := 1) hx hb dL_law_176 (by decide) ?_
  refine lv_iadd hx hb dL_law_177 ?_
  refine va_sld hx hb hX hbl hbA hS (law_j ex4 hi hL 1 (by decide)) dL_law_178 ?_
  refine lv_aload_n hx hb dL_law_179 rfl (lv_at hl 3 rfl) ?_
  rcases O g a gm am (xs (x4 + 1).toNatClampNeg) hI with ⟨z, zm, h1, h2, h3, h4, hI9⟩ | ⟨z, zm, h1, h5, h2, h3, hI9⟩
  · refine lcW (As := [.ref (E.2.1 0), .int (xs (x4 + 1).toNatClampNeg), .ref bo]) (rest := []) (k := 3) C0 (c_L_values_r l hstk E g a (xs (x4 + 1).toNatClampNeg) bo fo h1) bw1004 bw1101 bw1103 bw1102 hd_L_values ⟨Nat.le_of_ble_eq_true rfl, Nat.le_of_ble_eq_true rfl⟩ hP (va_D.eqv hD rfl) hS rfl hl.1 rfl (Nat.le_of_ble_eq_true rfl) dL_law_180 ⟨hcs.1, hcs.2⟩ (fun H locs hP hS => ?_)
    refine lv_istore (lv' := [(5, .int 0), (0, .ref b), (1, .ref (E.2.1 0)), (2, .ref ((Eq_ E qm).2.1 0)), (3, .ref bo), (4, .int x4)]) hx hb dL_law_183 hl (by decide) rfl (fun ls hl => ?_)
    refine lv_aload_n hx hb dL_law_185 rfl (lv_at hl 3 rfl) ?_
    refine lv_aload_n hx hb dL_law_186 rfl (lv_at hl 1 rfl) ?_
    refine lv_iload hx hb dL_law_187 (lv_at hl 5 rfl) ?_
    refine lv_iconst (v := 1) hx hb dL_law_189 (by decide) ?_
    refine lv_iadd hx hb dL_law_190 ?_
    refine va_sld hx hb hX hbl hbA hS (law_j ex4 hi hL 1 (by decide)) dL_law_191 ?_
    refine lcM (As := [.int (xs (x4 + 1).toNatClampNeg)]) (rest := []) (k := 1) C0 (c_X12_values l (Eq_ E qm) gm am (xs (x4 + 1).toNatClampNeg)) bw781 bw1104 bw778 bw1105 bw1106 hd_X12_values ⟨Nat.le_of_ble_eq_true rfl, Nat.le_of_ble_eq_true rfl⟩ hP (va_D.eqv hD rfl) hS rfl hl.1 rfl (Nat.le_of_ble_eq_true rfl) dL_law_192 ⟨by show _ ≤ 601024; omega, by show _ ≤ 7293033; omega⟩ (fun H locs hP hS => ?_)
    rw [h2] at hP ⊢
    refine lv_istore (lv' := [(6, .int zm.1), (5, .int 0), (0, .ref b), (1, .ref (E.2.1 0)), (2, .ref ((Eq_ E qm).2.1 0)), (3, .ref bo), (4, .int x4)]) hx hb dL_law_195 hl (by decide) rfl (fun ls hl => ?_)
    refine lv_aload_n hx hb dL_law_197 rfl (lv_at hl 4 rfl) ?_
    refine lcM (As := []) (rest := []) (k := 0) C0 (c_X12_thrown l (Eq_ E qm) zm.2 am) bw770 bw1107 bw778 bw1108 bw1109 hd_X12_thrown ⟨Nat.le_of_ble_eq_true rfl, Nat.le_of_ble_eq_true rfl⟩ hP (va_D.eqv hD rfl) hS rfl hl.1 rfl (Nat.le_of_ble_eq_true rfl) dL_law_198 ⟨by show _ ≤ 601024; omega, by show _ ≤ 7293033; omega⟩ (fun H locs hP hS => ?_)
    refine lv_iload hx hb dL_law_201 (lv_at hl 1 rfl) ?_
    refine lv_icmp_eq (tgt := 208) hx hb dL_law_203 (by decide) (fun _ => ?_) (fun c9 => absurd h3 c9)
    refine lv_iload hx hb dL_law_208 (lv_at hl 1 rfl) ?_
    refine lv_if_ne (tgt := 225) hx hb dL_law_210 (by decide) (fun c9 => absurd rfl c9) (fun _ => ?_)
    refine lv_aload_n hx hb dL_law_213 rfl (lv_at hl 5 rfl) ?_
    refine lv_iconst (v := 0) hx hb dL_law_214 (by decide) ?_
    refine va_lald hx hb hK hP 54 3 go_L rfl (inB_in (by decide)) dL_law_215 ?_
    refine lv_iload hx hb dL_law_216 (lv_at hl 0 rfl) ?_
    refine lv_i2l (v := ((zm.1 : Int32).toInt64)) hx hb dL_law_218 rfl ?_
    refine W.lcmp hx hb dL_law_219 ?_
    refine lv_if_eq (tgt := 225) hx hb dL_law_220 (by decide) (fun _ => ?_) (fun c9 => absurd (lg_self (congrArg Int32.toInt64 h4)) c9)
    refine lv_goto (tgt := 1719) hx hb dL_law_225 (by decide) ?_
    refine W.widen (k := CE + 2) (n := SE + 54) (by omega) (by omega) ?_
    exact hk z.2.1 z.2.2 zm.2 am (vp_updL fo 0 ((z.1 : Int32).toInt64)) H locs ls hI9 hP hS (lv_sub hl [2, 3, 4, 5, 6] rfl)
  · refine lcW (As := [.ref (E.2.1 0), .int (xs (x4 + 1).toNatClampNeg), .ref bo]) (rest := []) (k := 3) C0 (c_L_values_t1 l hstk E g a (xs (x4 + 1).toNatClampNeg) bo fo h1 h5) bw1004 bw1101 bw1103 bw1102 hd_L_values ⟨Nat.le_of_ble_eq_true rfl, Nat.le_of_ble_eq_true rfl⟩ hP (va_D.eqv hD rfl) hS rfl hl.1 rfl (Nat.le_of_ble_eq_true rfl) dL_law_180 ⟨hcs.1, hcs.2⟩ (fun H locs hP hS => ?_)
    refine lv_istore (lv' := [(5, .int 1), (0, .ref b), (1, .ref (E.2.1 0)), (2, .ref ((Eq_ E qm).2.1 0)), (3, .ref bo), (4, .int x4)]) hx hb dL_law_183 hl (by decide) rfl (fun ls hl => ?_)
    refine lv_aload_n hx hb dL_law_185 rfl (lv_at hl 3 rfl) ?_
    refine lv_aload_n hx hb dL_law_186 rfl (lv_at hl 1 rfl) ?_
    refine lv_iload hx hb dL_law_187 (lv_at hl 5 rfl) ?_
    refine lv_iconst (v := 1) hx hb dL_law_189 (by decide) ?_
    refine lv_iadd hx hb dL_law_190 ?_
    refine va_sld hx hb hX hbl hbA hS (law_j ex4 hi hL 1 (by decide)) dL_law_191 ?_
    refine lcM (As := [.int (xs (x4 + 1).toNatClampNeg)]) (rest := []) (k := 1) C0 (c_X12_values l (Eq_ E qm) gm am (xs (x4 + 1).toNatClampNeg)) bw781 bw1104 bw778 bw1105 bw1106 hd_X12_values ⟨Nat.le_of_ble_eq_true rfl, Nat.le_of_ble_eq_true rfl⟩ hP (va_D.eqv hD rfl) hS rfl hl.1 rfl (Nat.le_of_ble_eq_true rfl) dL_law_192 ⟨by show _ ≤ 601024; omega, by show _ ≤ 7293033; omega⟩ (fun H locs hP hS => ?_)
    rw [h2] at hP ⊢
    refine lv_istore (lv' := [(6, .int zm.1), (5, .int 1), (0, .ref b), (1, .ref (E.2.1 0)), (2, .ref ((Eq_ E qm).2.1 0)), (3, .ref bo), (4, .int x4)]) hx hb dL_law_195 hl (by decide) rfl (fun ls hl => ?_)
    refine lv_aload_n hx hb dL_law_197 rfl (lv_at hl 4 rfl) ?_
    refine lcM (As := []) (rest := []) (k := 0) C0 (c_X12_thrown l (Eq_ E qm) zm.2 am) bw770 bw1107 bw778 bw1108 bw1109 hd_X12_thrown ⟨Nat.le_of_ble_eq_true rfl, Nat.le_of_ble_eq_true rfl⟩ hP (va_D.eqv hD rfl) hS rfl hl.1 rfl (Nat.le_of_ble_eq_true rfl) dL_law_198 ⟨by show _ ≤ 601024; omega, by show _ ≤ 7293033; omega⟩ (fun H locs hP hS => ?_)
    refine lv_iload hx hb dL_law_201 (lv_at hl 1 rfl) ?_
    refine lv_icmp_eq (tgt := 208) hx hb dL_law_203 (by decide) (fun _ => ?_) (fun c9 => absurd h3 c9)
    refine lv_iload hx hb dL_law_208 (lv_at hl 1 rfl) ?_
    refine lv_if_ne (tgt := 225) hx hb dL_law_210 (by decide) (fun _ => ?_) (fun c9 => absurd c9 (by decide))
    refine lv_goto (tgt := 1719) hx hb dL_law_225 (by decide) ?_
    refine W.widen (k := CE + 2) (n := SE + 54) (by omega) (by omega) ?_
    exact hk z.2.1 z.2.2 zm.2 am fo H locs ls hI9 hP hS (lv_sub hl [2, 3, 4, 5, 6] rfl)
set_option maxRecDepth 100000 in
set_option maxHeartbeats 40000000 in
theorem lc_relation {p : Program} {l : Launch} {e : Env} {s : State} {m : MethodId} {below : List Frame} {meth : Method} {c : Code} {b L : Nat} {xs : Nat → Int32} {E : xE} (C0 : lwC p l s m c b L xs E) {I : xG → xA → xG → xA → Prop} (O : ob_relation I) {g : xG} {a : xA} {gm : xG} {am : xA} (hI : I g a gm am) {i : Nat} {x4 : Int32} (ex4 : x4 = nI i) (hi : i + 5 ≤ L) (hL : L ≤ 2560) {bo : Nat} {fo : Nat → Int64} {qm : Nat → Nat} {H : Heap} {locs : List Loc} {CE SE : Nat} (hCE : CE ≤ 600000) (hSE : SE ≤ 7000000) {Q : State → Prop} (hP : va_P E.1 vwCl (wL E qm g a bo fo gm am) H) (hD : va_D (A0 s) (wL E qm g a bo fo gm am)) (hS : va_S (A0 s) s.heap H locs) {ls : Array Slot} (hl : lv_has ls 8 [(0, .ref b), (1, .ref (E.2.1 0)), (2, .ref ((Eq_ E qm).2.1 0)), (3, .ref bo), (4, .int x4)])
    (hk : ∀ (g : xG) (a : xA) (gm : xG) (am : xA) (fo : Nat → Int64) (H : Heap) (locs : List Loc) (ls : Array Slot), I g a gm am → va_P E.1 vwCl (wL E qm g a bo fo gm am) H → va_S (A0 s) s.heap H locs → lv_has ls 8 [(0, .ref b), (1, .ref (E.2.1 0)), (2, .ref ((Eq_ E qm).2.1 0)), (3, .ref bo), (4, .int x4)] → W p l e room_1 s m #[Value.ref b] below meth c H locs (CE + 2) (SE + 54) Q (F0 m 1719 ls [])) : W p l e room_1 s m #[Value.ref b] below meth c H locs CE SE Q (F0 m 228 ls []) := by
  obtain ⟨hx, hb, hml, hown, hw, hK, hN, hT, hst, hz, hnc, hX, hbl, hstk⟩ := id C0
  have hbA : ¬ (A0 s) b := Nat.not_le.mpr hbl
  have hcs : CE + 1 ≤ room_1.cells ∧ SE + 6 ≤ room_1.slots := ⟨by show _ ≤ 601024; omega, by show _ ≤ 7293033; omega⟩
  refine lv_aload_n hx hb dL_law_228 rfl (lv_at hl 1 rfl) ?_
  refine lv_aload_n hx hb dL_law_229 rfl (lv_at hl 0 rfl) ?_
  refine lv_iload hx hb dL_law_230 (lv_at hl 4 rfl) ?_
  refine lv_iconst (v := 1) hx hb dL_law_232 (by decide) ?_
  refine lv_iadd hx hb dL_law_233 ?_
  refine va_sld hx hb hX hbl hbA hS (law_j ex4 hi hL 1 (by decide)) dL_law_234 ?_
  refine lv_aload_n hx hb dL_law_235 rfl (lv_at hl 3 rfl) ?_
  rcases O g a gm am (xs (x4 + 1).toNatClampNeg) hI with ⟨z, zm, h1, h2, h3, h4, hI9⟩ | ⟨z, zm, h1, h5, h2, h3, hI9⟩ | ⟨z, zm, h1, h5, h2, h3, hI9⟩
  · refine lcW (As := [.ref (E.2.1 0), .int (xs (x4 + 1).toNatClampNeg), .ref bo]) (rest := []) (k := 3) C0 (c_L_relation_r l hstk E g a (xs (x4 + 1).toNatClampNeg) bo fo h1) bw1009 bw1110 bw1103 bw1111 hd_L_relation ⟨Nat.le_of_ble_eq_true rfl, Nat.le_of_ble_eq_true rfl⟩ hP (va_D.eqv hD rfl) hS rfl hl.1 rfl (Nat.le_of_ble_eq_true rfl) dL_law_236 ⟨hcs.1, hcs.2⟩ (fun H locs hP hS => ?_)
    refine lv_istore (lv' := [(5, .int 0), (0, .ref b), (1, .ref (E.2.1 0)), (2, .ref ((Eq_ E qm).2.1 0)), (3, .ref bo), (4, .int x4)]) hx hb dL_law_239 hl (by decide) rfl (fun ls hl => ?_)
    refine lv_aload_n hx hb dL_law_241 rfl (lv_at hl 3 rfl) ?_
    refine lv_aload_n hx hb dL_law_242 rfl (lv_at hl 1 rfl) ?_
    refine lv_iload hx hb dL_law_243 (lv_at hl 5 rfl) ?_
    refine lv_iconst (v := 1) hx hb dL_law_245 (by decide) ?_
    refine lv_iadd hx hb dL_law_246 ?_
    refine va_sld hx hb hX hbl hbA hS (law_j ex4 hi hL 1 (by decide)) dL_law_247 ?_
    refine lcM (As := [.int (xs (x4 + 1).toNatClampNeg)]) (rest := []) (k := 1) C0 (c_X12_relation l (Eq_ E qm) gm am (xs (x4 + 1).toNatClampNeg) h2) bw787 bw1112 bw778 bw1113 bw1114 hd_X12_relation ⟨Nat.le_of_ble_eq_true rfl, Nat.le_of_ble_eq_true rfl⟩ hP (va_D.eqv hD rfl) hS rfl hl.1 rfl (Nat.le_of_ble_eq_true rfl) dL_law_248 ⟨by show _ ≤ 601024; omega, by show _ ≤ 7293033; omega⟩ (fun H locs hP hS => ?_)
    refine lv_istore (lv' := [(6, .int zm.1), (5, .int 0), (0, .ref b), (1, .ref (E.2.1 0)), (2, .ref ((Eq_ E qm).2.1 0)), (3, .ref bo), (4, .int x4)]) hx hb dL_law_251 hl (by decide) rfl (fun ls hl => ?_)
    refine lv_aload_n hx hb dL_law_253 rfl (lv_at hl 4 rfl) ?_
    refine lcM (As := []) (rest := []) (k := 0) C0 (c_X12_thrown l (Eq_ E qm) zm.2.1 zm.2.2) bw770 bw1107 bw778 bw1108 bw1109 hd_X12_thrown ⟨Nat.le_of_ble_eq_true rfl, Nat.le_of_ble_eq_true rfl⟩ hP (va_D.eqv hD rfl) hS rfl hl.1 rfl (Nat.le_of_ble_eq_true rfl) dL_law_254 ⟨by show _ ≤ 601024; omega, by show _ ≤ 7293033; omega⟩ (fun H locs hP hS => ?_)
    refine lv_iload hx hb dL_law_257 (lv_at hl 1 rfl) ?_
    refine lv_icmp_eq (tgt := 264) hx hb dL_law_259 (by decide) (fun _ => ?_) (fun c9 => absurd h3 c9)
    refine lv_iload hx hb dL_law_264 (lv_at hl 1 rfl) ?_
    refine lv_if_ne (tgt := 281) hx hb dL_law_266 (by decide) (fun c9 => absurd rfl c9) (fun _ => ?_)
    refine lv_aload_n hx hb dL_law_269 rfl (lv_at hl 5 rfl) ?_
    refine lv_iconst (v := 0) hx hb dL_law_270 (by decide) ?_
    refine va_lald hx hb hK hP 54 3 go_L rfl (inB_in (by decide)) dL_law_271 ?_
    refine lv_iload hx hb dL_law_272 (lv_at hl 0 rfl) ?_
    refine lv_i2l (v := ((zm.1 : Int32).toInt64)) hx hb dL_law_274 rfl ?_
    refine W.lcmp hx hb dL_law_275 ?_
    refine lv_if_eq (tgt := 281) hx hb dL_law_276 (by decide) (fun _ => ?_) (fun c9 => absurd (lg_self (congrArg Int32.toInt64 h4)) c9)
    refine lv_goto (tgt := 1719) hx hb dL_law_281 (by decide) ?_
    refine W.widen (k := CE + 2) (n := SE + 54) (by omega) (by omega) ?_
    exact hk z.2.1 z.2.2 zm.2.1 zm.2.2 (vp_updL fo 0 ((z.1 : Int32).toInt64)) H locs ls hI9 hP hS (lv_sub hl [2, 3, 4, 5, 6] rfl)
  · refine lcW (As := [.ref (E.2.1 0), .int (xs (x4 + 1).toNatClampNeg), .ref bo]) (rest := []) (k := 3) C0 (c_L_relation_t1 l hstk E g a (xs (x4 + 1).toNatClampNeg) bo fo h1 h5) bw1009 bw1110 bw1103 bw1111 hd_L_relation ⟨Nat.le_of_ble_eq_true rfl, Nat.le_of_ble_eq_true rfl⟩ hP (va_D.eqv hD rfl) hS rfl hl.1 rfl (Nat.le_of_ble_eq_true rfl) dL_law_236 ⟨hcs.1, hcs.2⟩ (fun H locs hP hS => ?_)
    refine lv_istore (lv' := [(5, .int 1), (0, .ref b), (1, .ref (E.2.1 0)), (2, .ref ((Eq_ E qm).2.1 0)), (3, .ref bo), (4, .int x4)]) hx hb dL_law_239 hl (by decide) rfl (fun ls hl => ?_)
    refine lv_aload_n hx hb dL_law_241 rfl (lv_at hl 3 rfl) ?_
    refine lv_aload_n hx hb dL_law_242 rfl (lv_at hl 1 rfl) ?_
    refine lv_iload hx hb dL_law_243 (lv_at hl 5 rfl) ?_
    refine lv_iconst (v := 1) hx hb dL_law_245 (by decide) ?_
    refine lv_iadd hx hb dL_law_246 ?_
    refine va_sld hx hb hX hbl hbA hS (law_j ex4 hi hL 1 (by decide)) dL_law_247 ?_
    refine lcM (As := [.int (xs (x4 + 1).toNatClampNeg)]) (rest := []) (k := 1) C0 (c_X12_relation l (Eq_ E qm) gm am (xs (x4 + 1).toNatClampNeg) h2) bw787 bw1112 bw778 bw1113 bw1114 hd_X12_relation ⟨Nat.le_of_ble_eq_true rfl, Nat.le_of_ble_eq_true rfl⟩ hP (va_D.eqv hD rfl) hS rfl hl.1 rfl (Nat.le_of_ble_eq_true rfl) dL_law_248 ⟨by show _ ≤ 601024; omega, by show _ ≤ 7293033; omega⟩ (fun H locs hP hS => ?_)
    refine lv_istore (lv' := [(6, .int zm.1), (5, .int 1), (0, .ref b), (1, .ref (E.2.1 0)), (2, .ref ((Eq_ E qm).2.1 0)), (3, .ref bo), (4, .int x4)]) hx hb dL_law_251 hl (by decide) rfl (fun ls hl => ?_)
    refine lv_aload_n hx hb dL_law_253 rfl (lv_at hl 4 rfl) ?_
    refine lcM (As := []) (rest := []) (k := 0) C0 (c_X12_thrown l (Eq_ E qm) zm.2.1 zm.2.2) bw770 bw1107 bw778 bw1108 bw1109 hd_X12_thrown ⟨Nat.le_of_ble_eq_true rfl, Nat.le_of_ble_eq_true rfl⟩ hP (va_D.eqv hD rfl) hS rfl hl.1 rfl (Nat.le_of_ble_eq_true rfl) dL_law_254 ⟨by show _ ≤ 601024; omega, by show _ ≤ 7293033; omega⟩ (fun H locs hP hS => ?_)
    refine lv_iload hx hb dL_law_257 (lv_at hl 1 rfl) ?_
    refine lv_icmp_eq (tgt := 264) hx hb dL_law_259 (by decide) (fun _ => ?_) (fun c9 => absurd h3 c9)
    refine lv_iload hx hb dL_law_264 (lv_at hl 1 rfl) ?_
    refine lv_if_ne (tgt := 281) hx hb dL_law_266 (by decide) (fun _ => ?_) (fun c9 => absurd c9 (by decide))
    refine lv_goto (tgt := 1719) hx hb dL_law_281 (by decide) ?_
    refine W.widen (k := CE + 2) (n := SE + 54) (by omega) (by omega) ?_
    exact hk z.2.1 z.2.2 zm.2.1 zm.2.2 fo H locs ls hI9 hP hS (lv_sub hl [2, 3, 4, 5, 6] rfl)
  · refine lcW (As := [.ref (E.2.1 0), .int (xs (x4 + 1).toNatClampNeg), .ref bo]) (rest := []) (k := 3) C0 (c_L_relation_t2 l hstk E g a (xs (x4 + 1).toNatClampNeg) bo fo h1 h5) bw1009 bw1110 bw1103 bw1111 hd_L_relation ⟨Nat.le_of_ble_eq_true rfl, Nat.le_of_ble_eq_true rfl⟩ hP (va_D.eqv hD rfl) hS rfl hl.1 rfl (Nat.le_of_ble_eq_true rfl) dL_law_236 ⟨hcs.1, hcs.2⟩ (fun H locs hP hS => ?_)
    refine lv_istore (lv' := [(5, .int 2), (0, .ref b), (1, .ref (E.2.1 0)), (2, .ref ((Eq_ E qm).2.1 0)), (3, .ref bo), (4, .int x4)]) hx hb dL_law_239 hl (by decide) rfl (fun ls hl => ?_)
    refine lv_aload_n hx hb dL_law_241 rfl (lv_at hl 3 rfl) ?_
    refine lv_aload_n hx hb dL_law_242 rfl (lv_at hl 1 rfl) ?_
    refine lv_iload hx hb dL_law_243 (lv_at hl 5 rfl) ?_
    refine lv_iconst (v := 1) hx hb dL_law_245 (by decide) ?_
    refine lv_iadd hx hb dL_law_246 ?_
    refine va_sld hx hb hX hbl hbA hS (law_j ex4 hi hL 1 (by decide)) dL_law_247 ?_
    refine lcM (As := [.int (xs (x4 + 1).toNatClampNeg)]) (rest := []) (k := 1) C0 (c_X12_relation l (Eq_ E qm) gm am (xs (x4 + 1).toNatClampNeg) h2) bw787 bw1112 bw778 bw1113 bw1114 hd_X12_relation ⟨Nat.le_of_ble_eq_true rfl, Nat.le_of_ble_eq_true rfl⟩ hP (va_D.eqv hD rfl) hS rfl hl.1 rfl (Nat.le_of_ble_eq_true rfl) dL_law_248 ⟨by show _ ≤ 601024; omega, by show _ ≤ 7293033; omega⟩ (fun H locs hP hS => ?_)
    refine lv_istore (lv' := [(6, .int zm.1), (5, .int 2), (0, .ref b), (1, .ref (E.2.1 0)), (2, .ref ((Eq_ E qm).2.1 0)), (3, .ref bo), (4, .int x4)]) hx hb dL_law_251 hl (by decide) rfl (fun ls hl => ?_)
    refine lv_aload_n hx hb dL_law_253 rfl (lv_at hl 4 rfl) ?_
    refine lcM (As := []) (rest := []) (k := 0) C0 (c_X12_thrown l (Eq_ E qm) zm.2.1 zm.2.2) bw770 bw1107 bw778 bw1108 bw1109 hd_X12_thrown ⟨Nat.le_of_ble_eq_true rfl, Nat.le_of_ble_eq_true rfl⟩ hP (va_D.eqv hD rfl) hS rfl hl.1 rfl (Nat.le_of_ble_eq_true rfl) dL_law_254 ⟨by show _ ≤ 601024; omega, by show _ ≤ 7293033; omega⟩ (fun H locs hP hS => ?_)
    refine lv_iload hx hb dL_law_257 (lv_at hl 1 rfl) ?_
    refine lv_icmp_eq (tgt := 264) hx hb dL_law_259 (by decide) (fun _ => ?_) (fun c9 => absurd h3 c9)
    refine lv_iload hx hb dL_law_264 (lv_at hl 1 rfl) ?_
    refine lv_if_ne (tgt := 281) hx hb dL_law_266 (by decide) (fun _ => ?_) (fun c9 => absurd c9 (by decide))
    refine lv_goto (tgt := 1719) hx hb dL_law_281 (by decide) ?_
    refine W.widen (k := CE + 2) (n := SE + 54) (by omega) (by omega) ?_
    exact hk z.2.1 z.2.2 zm.2.1 zm.2.2 fo H locs ls hI9 hP hS (lv_sub hl [2, 3, 4, 5, 6] rfl)
set_option maxRecDepth 100000 in
set_option maxHeartbeats 40000000 in
theorem lc_tuple {p : Program} {l : Launch} {e : Env} {s : State} {m : MethodId} {below : List Frame} {meth : Method} {c : Code} {b L : Nat} {xs : Nat → Int32} {E : xE} (C0 : lwC p l s m c b L xs E) {I : xG → xA → xG → xA → Prop} (O : ob_tuple I) {g : xG} {a : xA} {gm : xG} {am : xA} (hI : I g a gm am) {i : Nat} {x4 : Int32} (ex4 : x4 = nI i) (hi : i + 5 ≤ L) (hL : L ≤ 2560) {bo : Nat} {fo : Nat → Int64} {qm : Nat → Nat} {H : Heap} {locs : List Loc} {CE SE : Nat} (hCE : CE ≤ 600000) (hSE : SE ≤ 7000000) {Q : State → Prop} (hP : va_P E.1 vwCl (wL E qm g a bo fo gm am) H) (hD : va_D (A0 s) (wL E qm g a bo fo gm am)) (hS : va_S (A0 s) s.heap H locs) {ls : Array Slot} (hl : lv_has ls 8 [(0, .ref b), (1, .ref (E.2.1 0)), (2, .ref ((Eq_ E qm).2.1 0)), (3, .ref bo), (4, .int x4)])
    (hk : ∀ (g : xG) (a : xA) (gm : xG) (am : xA) (fo : Nat → Int64) (H : Heap) (locs : List Loc) (ls : Array Slot), I g a gm am → va_P E.1 vwCl (wL E qm g a bo fo gm am) H → va_S (A0 s) s.heap H locs → lv_has ls 8 [(0, .ref b), (1, .ref (E.2.1 0)), (2, .ref ((Eq_ E qm).2.1 0)), (3, .ref bo), (4, .int x4)] → W p l e room_1 s m #[Value.ref b] below meth c H locs (CE + 2) (SE + 54) Q (F0 m 1719 ls [])) : W p l e room_1 s m #[Value.ref b] below meth c H locs CE SE Q (F0 m 284 ls []) := by
  obtain ⟨hx, hb, hml, hown, hw, hK, hN, hT, hst, hz, hnc, hX, hbl, hstk⟩ := id C0
  have hbA : ¬ (A0 s) b := Nat.not_le.mpr hbl
  have hcs : CE + 1 ≤ room_1.cells ∧ SE + 6 ≤ room_1.slots := ⟨by show _ ≤ 601024; omega, by show _ ≤ 7293033; omega⟩
  refine lv_aload_n hx hb dL_law_284 rfl (lv_at hl 1 rfl) ?_
  refine lv_aload_n hx hb dL_law_285 rfl (lv_at hl 0 rfl) ?_
  refine lv_iload hx hb dL_law_286 (lv_at hl 4 rfl) ?_
  refine lv_iconst (v := 1) hx hb dL_law_288 (by decide) ?_
  refine lv_iadd hx hb dL_law_289 ?_
  refine va_sld hx hb hX hbl hbA hS (law_j ex4 hi hL 1 (by decide)) dL_law_290 ?_
  refine lv_aload_n hx hb dL_law_291 rfl (lv_at hl 0 rfl) ?_
  refine lv_iload hx hb dL_law_292 (lv_at hl 4 rfl) ?_
  refine lv_iconst (v := 2) hx hb dL_law_294 (by decide) ?_
  refine lv_iadd hx hb dL_law_295 ?_
  refine va_sld hx hb hX hbl hbA hS (law_j ex4 hi hL 2 (by decide)) dL_law_296 ?_
  refine lv_aload_n hx hb dL_law_297 rfl (lv_at hl 0 rfl) ?_
  refine lv_iload hx hb dL_law_298 (lv_at hl 4 rfl) ?_
  refine lv_iconst (v := 3) hx hb dL_law_300 (by decide) ?_
  refine lv_iadd hx hb dL_law_301 ?_
  refine va_sld hx hb hX hbl hbA hS (law_j ex4 hi hL 3 (by decide)) dL_law_302 ?_
  refine lv_if_eq (tgt := 310) hx hb dL_law_303 (by decide) (fun c1 => ?_) (fun c1 => ?_)
  · refine lv_iconst (v := 0) hx hb dL_law_310 (by decide) ?_
    refine lv_aload_n hx hb dL_law_311 rfl (lv_at hl 3 rfl) ?_
    rcases O g a gm am (xs (x4 + 1).toNatClampNeg) (xs (x4 + 2).toNatClampNeg) 0 hI with ⟨z, zm, h1, h2, h3, h4, hI9⟩ | ⟨z, zm, h1, h5, h2, h3, hI9⟩
    · refine lcW (As := [.ref (E.2.1 0), .int (xs (x4 + 1).toNatClampNeg), .int (xs (x4 + 2).toNatClampNeg), .int 0, .ref bo]) (rest := []) (k := 5) C0 (c_L_tuple_r l hstk E g a (xs (x4 + 1).toNatClampNeg) (xs (x4 + 2).toNatClampNeg) 0 bo fo h1) bw1014 bw1115 bw1103 bw1116 hd_L_tuple ⟨Nat.le_of_ble_eq_true rfl, Nat.le_of_ble_eq_true rfl⟩ hP (va_D.eqv hD rfl) hS rfl hl.1 rfl (Nat.le_of_ble_eq_true rfl) dL_law_312 ⟨hcs.1, hcs.2⟩ (fun H locs hP hS => ?_)
      refine lv_istore (lv' := [(5, .int 0), (0, .ref b), (1, .ref (E.2.1 0)), (2, .ref ((Eq_ E qm).2.1 0)), (3, .ref bo), (4, .int x4)]) hx hb dL_law_315 hl (by decide) rfl (fun ls hl => ?_)
      refine lv_aload_n hx hb dL_law_317 rfl (lv_at hl 3 rfl) ?_
      refine lv_aload_n hx hb dL_law_318 rfl (lv_at hl 1 rfl) ?_
      refine lv_iload hx hb dL_law_319 (lv_at hl 5 rfl) ?_
      refine lv_iconst (v := 1) hx hb dL_law_321 (by decide) ?_
      refine lv_iadd hx hb dL_law_322 ?_
      refine va_sld hx hb hX hbl hbA hS (law_j ex4 hi hL 1 (by decide)) dL_law_323 ?_
      refine lv_aload_n hx hb dL_law_324 rfl (lv_at hl 1 rfl) ?_
      refine lv_iload hx hb dL_law_325 (lv_at hl 5 rfl) ?_
      refine lv_iconst (v := 2) hx hb dL_law_327 (by decide) ?_
      refine lv_iadd hx hb dL_law_328 ?_
      refine va_sld hx hb hX hbl hbA hS (law_j ex4 hi hL 2 (by decide)) dL_law_329 ?_
      refine lv_aload_n hx hb dL_law_330 rfl (lv_at hl 1 rfl) ?_
      refine lv_iload hx hb dL_law_331 (lv_at hl 5 rfl) ?_
      refine lv_iconst (v := 3) hx hb dL_law_333 (by decide) ?_
      refine lv_iadd hx hb dL_law_334 ?_
      refine va_sld hx hb hX hbl hbA hS (law_j ex4 hi hL 3 (by decide)) dL_law_335 ?_
      refine lv_if_eq (tgt := 343) hx hb dL_law_336 (by decide) (fun _ => ?_) (fun c9 => absurd c1 c9)
      refine lv_iconst (v := 0) hx hb dL_law_343 (by decide) ?_
      refine lcM (As := [.int (xs (x4 + 1).toNatClampNeg), .int (xs (x4 + 2).toNatClampNeg), .int 0]) (rest := []) (k := 3) C0 (c_X12_tuple l (Eq_ E qm) gm am (xs (x4 + 1).toNatClampNeg) (xs (x4 + 2).toNatClampNeg) 0 h2) bw789 bw1117 bw778 bw1118 bw1119 hd_X12_tuple ⟨Nat.le_of_ble_eq_true rfl, Nat.le_of_ble_eq_true rfl⟩ hP (va_D.eqv hD rfl) hS rfl hl.1 rfl (Nat.le_of_ble_eq_true rfl) dL_law_344 ⟨by show _ ≤ 601024; omega, by show _ ≤ 7293033; omega⟩ (fun H locs hP hS => ?_)
      refine lv_istore (lv' := [(6, .int zm.1), (5, .int 0), (0, .ref b), (1, .ref (E.2.1 0)), (2, .ref ((Eq_ E qm).2.1 0)), (3, .ref bo), (4, .int x4)]) hx hb dL_law_347 hl (by decide) rfl (fun ls hl => ?_)
      refine lv_aload_n hx hb dL_law_349 rfl (lv_at hl 4 rfl) ?_
      refine lcM (As := []) (rest := []) (k := 0) C0 (c_X12_thrown l (Eq_ E qm) zm.2.1 zm.2.2) bw770 bw1107 bw778 bw1108 bw1109 hd_X12_thrown ⟨Nat.le_of_ble_eq_true rfl, Nat.le_of_ble_eq_true rfl⟩ hP (va_D.eqv hD rfl) hS rfl hl.1 rfl (Nat.le_of_ble_eq_true rfl) dL_law_350 ⟨by show _ ≤ 601024; omega, by show _ ≤ 7293033; omega⟩ (fun H locs hP hS => ?_)
      refine lv_iload hx hb dL_law_353 (lv_at hl 1 rfl) ?_
      refine lv_icmp_eq (tgt := 360) hx hb dL_law_355 (by decide) (fun _ => ?_) (fun c9 => absurd h3 c9)
      refine lv_iload hx hb dL_law_360 (lv_at hl 1 rfl) ?_
      refine lv_if_ne (tgt := 384) hx hb dL_law_362 (by decide) (fun c9 => absurd rfl c9) (fun _ => ?_)
      refine lv_aload_n hx hb dL_law_365 rfl (lv_at hl 5 rfl) ?_
      refine lv_iconst (v := 0) hx hb dL_law_366 (by decide) ?_
      refine va_lald hx hb hK hP 54 3 go_L rfl (inB_in (by decide)) dL_law_367 ?_
      refine lv_iload hx hb dL_law_368 (lv_at hl 0 rfl) ?_
      refine lv_if_eq (tgt := 377) hx hb dL_law_370 (by decide) (fun c2 => ?_) (fun c2 => ?_)
      · refine lv_lconst (v := 0) hx hb dL_law_377 (by decide) ?_
        refine W.lcmp hx hb dL_law_378 ?_
        refine lv_if_eq (tgt := 384) hx hb dL_law_379 (by decide) (fun _ => ?_) (fun c9 => absurd (lg_self (show (if z.1 = 0 then (0 : Int64) else 1) = 0 from by rw [h4, if_pos c2])) c9)
        refine lv_goto (tgt := 1719) hx hb dL_law_384 (by decide) ?_
        refine W.widen (k := CE + 2) (n := SE + 54) (by omega) (by omega) ?_
        exact hk g z.2 zm.2.1 zm.2.2 (vp_updL fo 0 (if z.1 = 0 then 0 else 1)) H locs ls hI9 hP hS (lv_sub hl [2, 3, 4, 5, 6] rfl)
      · refine lv_lconst (v := 1) hx hb dL_law_373 (by decide) ?_
        refine lv_goto (tgt := 378) hx hb dL_law_374 (by decide) ?_
        refine W.lcmp hx hb dL_law_378 ?_
        refine lv_if_eq (tgt := 384) hx hb dL_law_379 (by decide) (fun _ => ?_) (fun c9 => absurd (lg_self (show (if z.1 = 0 then (0 : Int64) else 1) = 1 from by rw [h4, if_neg c2])) c9)
        refine lv_goto (tgt := 1719) hx hb dL_law_384 (by decide) ?_
        refine W.widen (k := CE + 2) (n := SE + 54) (by omega) (by omega) ?_
        exact hk g z.2 zm.2.1 zm.2.2 (vp_updL fo 0 (if z.1 = 0 then 0 else 1)) H locs ls hI9 hP hS (lv_sub hl [2, 3, 4, 5, 6] rfl)
    · refine lcW (As := [.ref (E.2.1 0), .int (xs (x4 + 1).toNatClampNeg), .int (xs (x4 + 2).toNatClampNeg), .int 0, .ref bo]) (rest := []) (k := 5) C0 (c_L_tuple_t3 l hstk E g a (xs (x4 + 1).toNatClampNeg) (xs (x4 + 2).toNatClampNeg) 0 bo fo h1 h5) bw1014 bw1115 bw1103 bw1116 hd_L_tuple ⟨Nat.le_of_ble_eq_true rfl, Nat.le_of_ble_eq_true rfl⟩ hP (va_D.eqv hD rfl) hS rfl hl.1 rfl (Nat.le_of_ble_eq_true rfl) dL_law_312 ⟨hcs.1, hcs.2⟩ (fun H locs hP hS => ?_)
      refine lv_istore (lv' := [(5, .int 1), (0, .ref b), (1, .ref (E.2.1 0)), (2, .ref ((Eq_ E qm).2.1 0)), (3, .ref bo), (4, .int x4)]) hx hb dL_law_315 hl (by decide) rfl (fun ls hl => ?_)
      refine lv_aload_n hx hb dL_law_317 rfl (lv_at hl 3 rfl) ?_
      refine lv_aload_n hx hb dL_law_318 rfl (lv_at hl 1 rfl) ?_
      refine lv_iload hx hb dL_law_319 (lv_at hl 5 rfl) ?_
      refine lv_iconst (v := 1) hx hb dL_law_321 (by decide) ?_
      refine lv_iadd hx hb dL_law_322 ?_
      refine va_sld hx hb hX hbl hbA hS (law_j ex4 hi hL 1 (by decide)) dL_law_323 ?_
      refine lv_aload_n hx hb dL_law_324 rfl (lv_at hl 1 rfl) ?_
      refine lv_iload hx hb dL_law_325 (lv_at hl 5 rfl) ?_
      refine lv_iconst (v := 2) hx hb dL_law_327 (by decide) ?_
      refine lv_iadd hx hb dL_law_328 ?_
      refine va_sld hx hb hX hbl hbA hS (law_j ex4 hi hL 2 (by decide)) dL_law_329 ?_
      refine lv_aload_n hx hb dL_law_330 rfl (lv_at hl 1 rfl) ?_
      refine lv_iload hx hb dL_law_331 (lv_at hl 5 rfl) ?_
      refine lv_iconst (v := 3) hx hb dL_law_333 (by decide) ?_
      refine lv_iadd hx hb dL_law_334 ?_
      refine va_sld hx hb hX hbl hbA hS (law_j ex4 hi hL 3 (by decide)) dL_law_335 ?_
      refine lv_if_eq (tgt := 343) hx hb dL_law_336 (by decide) (fun _ => ?_) (fun c9 => absurd c1 c9)
      refine lv_iconst (v := 0) hx hb dL_law_343 (by decide) ?_
      refine lcM (As := [.int (xs (x4 + 1).toNatClampNeg), .int (xs (x4 + 2).toNatClampNeg), .int 0]) (rest := []) (k := 3) C0 (c_X12_tuple l (Eq_ E qm) gm am (xs (x4 + 1).toNatClampNeg) (xs (x4 + 2).toNatClampNeg) 0 h2) bw789 bw1117 bw778 bw1118 bw1119 hd_X12_tuple ⟨Nat.le_of_ble_eq_true rfl, Nat.le_of_ble_eq_true rfl⟩ hP (va_D.eqv hD rfl) hS rfl hl.1 rfl (Nat.le_of_ble_eq_true rfl) dL_law_344 ⟨by show _ ≤ 601024; omega, by show _ ≤ 7293033; omega⟩ (fun H locs hP hS => ?_)
      refine lv_istore (lv' := [(6, .int zm.1), (5, .int 1), (0, .ref b), (1, .ref (E.2.1 0)), (2, .ref ((Eq_ E qm).2.1 0)), (3, .ref bo), (4, .int x4)]) hx hb dL_law_347 hl (by decide) rfl (fun ls hl => ?_)
      refine lv_aload_n hx hb dL_law_349 rfl (lv_at hl 4 rfl) ?_
      refine lcM (As := []) (rest := []) (k := 0) C0 (c_X12_thrown l (Eq_ E qm) zm.2.1 zm.2.2) bw770 bw1107 bw778 bw1108 bw1109 hd_X12_thrown ⟨Nat.le_of_ble_eq_true rfl, Nat.le_of_ble_eq_true rfl⟩ hP (va_D.eqv hD rfl) hS rfl hl.1 rfl (Nat.le_of_ble_eq_true rfl) dL_law_350 ⟨by show _ ≤ 601024; omega, by show _ ≤ 7293033; omega⟩ (fun H locs hP hS => ?_)
      refine lv_iload hx hb dL_law_353 (lv_at hl 1 rfl) ?_
      refine lv_icmp_eq (tgt := 360) hx hb dL_law_355 (by decide) (fun _ => ?_) (fun c9 => absurd h3 c9)
      refine lv_iload hx hb dL_law_360 (lv_at hl 1 rfl) ?_
      refine lv_if_ne (tgt := 384) hx hb dL_law_362 (by decide) (fun _ => ?_) (fun c9 => absurd c9 (by decide))
      refine lv_goto (tgt := 1719) hx hb dL_law_384 (by decide) ?_
      refine W.widen (k := CE + 2) (n := SE + 54) (by omega) (by omega) ?_
      exact hk g z.2 zm.2.1 zm.2.2 fo H locs ls hI9 hP hS (lv_sub hl [2, 3, 4, 5, 6] rfl)
  · refine lv_iconst (v := 1) hx hb dL_law_306 (by decide) ?_
    refine lv_goto (tgt := 311) hx hb dL_law_307 (by decide) ?_
    refine lv_aload_n hx hb dL_law_311 rfl (lv_at hl 3 rfl) ?_
    rcases O g a gm am (xs (x4 + 1).toNatClampNeg) (xs (x4 + 2).toNatClampNeg) 1 hI with ⟨z, zm, h1, h2, h3, h4, hI9⟩ | ⟨z, zm, h1, h5, h2, h3, hI9⟩
    · refine lcW (As := [.ref (E.2.1 0), .int (xs (x4 + 1).toNatClampNeg), .int (xs (x4 + 2).toNatClampNeg), .int 1, .ref bo]) (rest := []) (k := 5) C0 (c_L_tuple_r l hstk E g a (xs (x4 + 1).toNatClampNeg) (xs (x4 + 2).toNatClampNeg) 1 bo fo h1) bw1014 bw1115 bw1103 bw1116 hd_L_tuple ⟨Nat.le_of_ble_eq_true rfl, Nat.le_of_ble_eq_true rfl⟩ hP (va_D.eqv hD rfl) hS rfl hl.1 rfl (Nat.le_of_ble_eq_true rfl) dL_law_312 ⟨hcs.1, hcs.2⟩ (fun H locs hP hS => ?_)
      refine lv_istore (lv' := [(5, .int 0), (0, .ref b), (1, .ref (E.2.1 0)), (2, .ref ((Eq_ E qm).2.1 0)), (3, .ref bo), (4, .int x4)]) hx hb dL_law_315 hl (by decide) rfl (fun ls hl => ?_)
      refine lv_aload_n hx hb dL_law_317 rfl (lv_at hl 3 rfl) ?_
      refine lv_aload_n hx hb dL_law_318 rfl (lv_at hl 1 rfl) ?_
      refine lv_iload hx hb dL_law_319 (lv_at hl 5 rfl) ?_
      refine lv_iconst (v := 1) hx hb dL_law_321 (by decide) ?_
      refine lv_iadd hx hb dL_law_322 ?_
      refine va_sld hx hb hX hbl hbA hS (law_j ex4 hi hL 1 (by decide)) dL_law_323 ?_
      refine lv_aload_n hx hb dL_law_324 rfl (lv_at hl 1 rfl) ?_
      refine lv_iload hx hb dL_law_325 (lv_at hl 5 rfl) ?_
      refine lv_iconst (v := 2) hx hb dL_law_327 (by decide) ?_
      refine lv_iadd hx hb dL_law_328 ?_
      refine va_sld hx hb hX hbl hbA hS (law_j ex4 hi hL 2 (by decide)) dL_law_329 ?_
      refine lv_aload_n hx hb dL_law_330 rfl (lv_at hl 1 rfl) ?_
      refine lv_iload hx hb dL_law_331 (lv_at hl 5 rfl) ?_
      refine lv_iconst (v := 3) hx hb dL_law_333 (by decide) ?_
      refine lv_iadd hx hb dL_law_334 ?_
      refine va_sld hx hb hX hbl hbA hS (law_j ex4 hi hL 3 (by decide)) dL_law_335 ?_
      refine lv_if_eq (tgt := 343) hx hb dL_law_336 (by decide) (fun c9 => absurd c9 c1) (fun _ => ?_)
      refine lv_iconst (v := 1) hx hb dL_law_339 (by decide) ?_
      refine lv_goto (tgt := 344) hx hb dL_law_340 (by decide) ?_
      refine lcM (As := [.int (xs (x4 + 1).toNatClampNeg), .int (xs (x4 + 2).toNatClampNeg), .int 1]) (rest := []) (k := 3) C0 (c_X12_tuple l (Eq_ E qm) gm am (xs (x4 + 1).toNatClampNeg) (xs (x4 + 2).toNatClampNeg) 1 h2) bw789 bw1117 bw778 bw1118 bw1119 hd_X12_tuple ⟨Nat.le_of_ble_eq_true rfl, Nat.le_of_ble_eq_true rfl⟩ hP (va_D.eqv hD rfl) hS rfl hl.1 rfl (Nat.le_of_ble_eq_true rfl) dL_law_344 ⟨by show _ ≤ 601024; omega, by show _ ≤ 7293033; omega⟩ (fun H locs hP hS => ?_)
      refine lv_istore (lv' := [(6, .int zm.1), (5, .int 0), (0, .ref b), (1, .ref (E.2.1 0)), (2, .ref ((Eq_ E qm).2.1 0)), (3, .ref bo), (4, .int x4)]) hx hb dL_law_347 hl (by decide) rfl (fun ls hl => ?_)
      refine lv_aload_n hx hb dL_law_349 rfl (lv_at hl 4 rfl) ?_
      refine lcM (As := []) (rest := []) (k := 0) C0 (c_X12_thrown l (Eq_ E qm) zm.2.1 zm.2.2) bw770 bw1107 bw778 bw1108 bw1109 hd_X12_thrown ⟨Nat.le_of_ble_eq_true rfl, Nat.le_of_ble_eq_true rfl⟩ hP (va_D.eqv hD rfl) hS rfl hl.1 rfl (Nat.le_of_ble_eq_true rfl) dL_law_350 ⟨by show _ ≤ 601024; omega, by show _ ≤ 7293033; omega⟩ (fun H locs hP hS => ?_)
      refine lv_iload hx hb dL_law_353 (lv_at hl 1 rfl) ?_
      refine lv_icmp_eq (tgt := 360) hx hb dL_law_355 (by decide) (fun _ => ?_) (fun c9 => absurd h3 c9)
      refine lv_iload hx hb dL_law_360 (lv_at hl 1 rfl) ?_
      refine lv_if_ne (tgt := 384) hx hb dL_law_362 (by decide) (fun c9 => absurd rfl c9) (fun _ => ?_)
      refine lv_aload_n hx hb dL_law_365 rfl (lv_at hl 5 rfl) ?_
      refine lv_iconst (v := 0) hx hb dL_law_366 (by decide) ?_
      refine va_lald hx hb hK hP 54 3 go_L rfl (inB_in (by decide)) dL_law_367 ?_
      refine lv_iload hx hb dL_law_368 (lv_at hl 0 rfl) ?_
      refine lv_if_eq (tgt := 377) hx hb dL_law_370 (by decide) (fun c3 => ?_) (fun c3 => ?_)
      · refine lv_lconst (v := 0) hx hb dL_law_377 (by decide) ?_
        refine W.lcmp hx hb dL_law_378 ?_
        refine lv_if_eq (tgt := 384) hx hb dL_law_379 (by decide) (fun _ => ?_) (fun c9 => absurd (lg_self (show (if z.1 = 0 then (0 : Int64) else 1) = 0 from by rw [h4, if_pos c3])) c9)
        refine lv_goto (tgt := 1719) hx hb dL_law_384 (by decide) ?_
        refine W.widen (k := CE + 2) (n := SE + 54) (by omega) (by omega) ?_
        exact hk g z.2 zm.2.1 zm.2.2 (vp_updL fo 0 (if z.1 = 0 then 0 else 1)) H locs ls hI9 hP hS (lv_sub hl [2, 3, 4, 5, 6] rfl)
      · refine lv_lconst (v := 1) hx hb dL_law_373 (by decide) ?_
        refine lv_goto (tgt := 378) hx hb dL_law_374 (by decide) ?_
        refine W.lcmp hx hb dL_law_378 ?_
        refine lv_if_eq (tgt := 384) hx hb dL_law_379 (by decide) (fun _ => ?_) (fun c9 => absurd (lg_self (show (if z.1 = 0 then (0 : Int64) else 1) = 1 from by rw [h4, if_neg c3])) c9)
        refine lv_goto (tgt := 1719) hx hb dL_law_384 (by decide) ?_
        refine W.widen (k := CE + 2) (n := SE + 54) (by omega) (by omega) ?_
        exact hk g z.2 zm.2.1 zm.2.2 (vp_updL fo 0 (if z.1 = 0 then 0 else 1)) H locs ls hI9 hP hS (lv_sub hl [2, 3, 4, 5, 6] rfl)
    · refine lcW (As := [.ref (E.2.1 0), .int (xs (x4 + 1).toNatClampNeg), .int (xs (x4 + 2).toNatClampNeg), .int 1, .ref bo]) (rest := []) (k := 5) C0 (c_L_tuple_t3 l hstk E g a (xs (x4 + 1).toNatClampNeg) (xs (x4 + 2).toNatClampNeg) 1 bo fo h1 h5) bw1014 bw1115 bw1103 bw1116 hd_L_tuple ⟨Nat.le_of_ble_eq_true rfl, Nat.le_of_ble_eq_true rfl⟩ hP (va_D.eqv hD rfl) hS rfl hl.1 rfl (Nat.le_of_ble_eq_true rfl) dL_law_312 ⟨hcs.1, hcs.2⟩ (fun H locs hP hS => ?_)
      refine lv_istore (lv' := [(5, .int 1), (0, .ref b), (1, .ref (E.2.1 0)), (2, .ref ((Eq_ E qm).2.1 0)), (3, .ref bo), (4, .int x4)]) hx hb dL_law_315 hl (by decide) rfl (fun ls hl => ?_)
      refine lv_aload_n hx hb dL_law_317 rfl (lv_at hl 3 rfl) ?_
      refine lv_aload_n hx hb dL_law_318 rfl (lv_at hl 1 rfl) ?_
      refine lv_iload hx hb dL_law_319 (lv_at hl 5 rfl) ?_
      refine lv_iconst (v := 1) hx hb dL_law_321 (by decide) ?_
      refine lv_iadd hx hb dL_law_322 ?_
      refine va_sld hx hb hX hbl hbA hS (law_j ex4 hi hL 1 (by decide)) dL_law_323 ?_
      refine lv_aload_n hx hb dL_law_324 rfl (lv_at hl 1 rfl) ?_
      refine lv_iload hx hb dL_law_325 (lv_at hl 5 rfl) ?_
      refine lv_iconst (v := 2) hx hb dL_law_327 (by decide) ?_
      refine lv_iadd hx hb dL_law_328 ?_
      refine va_sld hx hb hX hbl hbA hS (law_j ex4 hi hL 2 (by decide)) dL_law_329 ?_
      refine lv_aload_n hx hb dL_law_330 rfl (lv_at hl 1 rfl) ?_
      refine lv_iload hx hb dL_law_331 (lv_at hl 5 rfl) ?_
      refine lv_iconst (v := 3) hx hb dL_law_333 (by decide) ?_
      refine lv_iadd hx hb dL_law_334 ?_
      refine va_sld hx hb hX hbl hbA hS (law_j ex4 hi hL 3 (by decide)) dL_law_335 ?_
      refine lv_if_eq (tgt := 343) hx hb dL_law_336 (by decide) (fun c9 => absurd c9 c1) (fun _ => ?_)
      refine lv_iconst (v := 1) hx hb dL_law_339 (by decide) ?_
      refine lv_goto (tgt := 344) hx hb dL_law_340 (by decide) ?_
      refine lcM (As := [.int (xs (x4 + 1).toNatClampNeg), .int (xs (x4 + 2).toNatClampNeg), .int 1]) (rest := []) (k := 3) C0 (c_X12_tuple l (Eq_ E qm) gm am (xs (x4 + 1).toNatClampNeg) (xs (x4 + 2).toNatClampNeg) 1 h2) bw789 bw1117 bw778 bw1118 bw1119 hd_X12_tuple ⟨Nat.le_of_ble_eq_true rfl, Nat.le_of_ble_eq_true rfl⟩ hP (va_D.eqv hD rfl) hS rfl hl.1 rfl (Nat.le_of_ble_eq_true rfl) dL_law_344 ⟨by show _ ≤ 601024; omega, by show _ ≤ 7293033; omega⟩ (fun H locs hP hS => ?_)
      refine lv_istore (lv' := [(6, .int zm.1), (5, .int 1), (0, .ref b), (1, .ref (E.2.1 0)), (2, .ref ((Eq_ E qm).2.1 0)), (3, .ref bo), (4, .int x4)]) hx hb dL_law_347 hl (by decide) rfl (fun ls hl => ?_)
      refine lv_aload_n hx hb dL_law_349 rfl (lv_at hl 4 rfl) ?_
      refine lcM (As := []) (rest := []) (k := 0) C0 (c_X12_thrown l (Eq_ E qm) zm.2.1 zm.2.2) bw770 bw1107 bw778 bw1108 bw1109 hd_X12_thrown ⟨Nat.le_of_ble_eq_true rfl, Nat.le_of_ble_eq_true rfl⟩ hP (va_D.eqv hD rfl) hS rfl hl.1 rfl (Nat.le_of_ble_eq_true rfl) dL_law_350 ⟨by show _ ≤ 601024; omega, by show _ ≤ 7293033; omega⟩ (fun H locs hP hS => ?_)
      refine lv_iload hx hb dL_law_353 (lv_at hl 1 rfl) ?_
      refine lv_icmp_eq (tgt := 360) hx hb dL_law_355 (by decide) (fun _ => ?_) (fun c9 => absurd h3 c9)
      refine lv_iload hx hb dL_law_360 (lv_at hl 1 rfl) ?_
      refine lv_if_ne (tgt := 384) hx hb dL_law_362 (by decide) (fun _ => ?_) (fun c9 => absurd c9 (by decide))
      refine lv_goto (tgt := 1719) hx hb dL_law_384 (by decide) ?_
      refine W.widen (k := CE + 2) (n := SE + 54) (by omega) (by omega) ?_
      exact hk g z.2 zm.2.1 zm.2.2 fo H locs ls hI9 hP hS (lv_sub hl [2, 3, 4, 5, 6] rfl)
set_option maxRecDepth 100000 in
set_option maxHeartbeats 40000000 in
theorem lc_ofRelation {p : Program} {l : Launch} {e : Env} {s : State} {m : MethodId} {below : List Frame} {meth : Method} {c : Code} {b L : Nat} {xs : Nat → Int32} {E : xE} (C0 : lwC p l s m c b L xs E) {I : xG → xA → xG → xA → Prop} (O : ob_ofRelation I) {g : xG} {a : xA} {gm : xG} {am : xA} (hI : I g a gm am) {i : Nat} {x4 : Int32} (ex4 : x4 = nI i) (hi : i + 5 ≤ L) (hL : L ≤ 2560) {bo : Nat} {fo : Nat → Int64} {qm : Nat → Nat} {H : Heap} {locs : List Loc} {CE SE : Nat} (hCE : CE ≤ 600000) (hSE : SE ≤ 7000000) {Q : State → Prop} (hP : va_P E.1 vwCl (wL E qm g a bo fo gm am) H) (hD : va_D (A0 s) (wL E qm g a bo fo gm am)) (hS : va_S (A0 s) s.heap H locs) {ls : Array Slot} (hl : lv_has ls 8 [(0, .ref b), (1, .ref (E.2.1 0)), (2, .ref ((Eq_ E qm).2.1 0)), (3, .ref bo), (4, .int x4)])
    (hk : ∀ (g : xG) (a : xA) (gm : xG) (am : xA) (fo : Nat → Int64) (H : Heap) (locs : List Loc) (ls : Array Slot), I g a gm am → va_P E.1 vwCl (wL E qm g a bo fo gm am) H → va_S (A0 s) s.heap H locs → lv_has ls 8 [(0, .ref b), (1, .ref (E.2.1 0)), (2, .ref ((Eq_ E qm).2.1 0)), (3, .ref bo), (4, .int x4)] → W p l e room_1 s m #[Value.ref b] below meth c H locs (CE + 2) (SE + 54) Q (F0 m 1719 ls [])) : W p l e room_1 s m #[Value.ref b] below meth c H locs CE SE Q (F0 m 387 ls []) := by
  obtain ⟨hx, hb, hml, hown, hw, hK, hN, hT, hst, hz, hnc, hX, hbl, hstk⟩ := id C0
  have hbA : ¬ (A0 s) b := Nat.not_le.mpr hbl
  have hcs : CE + 1 ≤ room_1.cells ∧ SE + 6 ≤ room_1.slots := ⟨by show _ ≤ 601024; omega, by show _ ≤ 7293033; omega⟩
  refine lv_aload_n hx hb dL_law_387 rfl (lv_at hl 1 rfl) ?_
  refine lv_aload_n hx hb dL_law_388 rfl (lv_at hl 0 rfl) ?_
  refine lv_iload hx hb dL_law_389 (lv_at hl 4 rfl) ?_
  refine lv_iconst (v := 1) hx hb dL_law_391 (by decide) ?_
  refine lv_iadd hx hb dL_law_392 ?_
  refine va_sld hx hb hX hbl hbA hS (law_j ex4 hi hL 1 (by decide)) dL_law_393 ?_
  refine lv_aload_n hx hb dL_law_394 rfl (lv_at hl 0 rfl) ?_
  refine lv_iload hx hb dL_law_395 (lv_at hl 4 rfl) ?_
  refine lv_iconst (v := 2) hx hb dL_law_397 (by decide) ?_
  refine lv_iadd hx hb dL_law_398 ?_
  refine va_sld hx hb hX hbl hbA hS (law_j ex4 hi hL 2 (by decide)) dL_law_399 ?_
  refine lv_aload_n hx hb dL_law_400 rfl (lv_at hl 3 rfl) ?_
  rcases O g a gm am (xs (x4 + 1).toNatClampNeg) (xs (x4 + 2).toNatClampNeg) hI with ⟨z, zm, h1, h2, h3, h4, hI9⟩ | ⟨z, zm, h1, h5, h2, h3, hI9⟩ | ⟨z, zm, h1, h5, h2, h3, hI9⟩
  · refine lcW (As := [.ref (E.2.1 0), .int (xs (x4 + 1).toNatClampNeg), .int (xs (x4 + 2).toNatClampNeg), .ref bo]) (rest := []) (k := 4) C0 (c_L_ofRelation_r l hstk E g a (xs (x4 + 1).toNatClampNeg) (xs (x4 + 2).toNatClampNeg) bo fo h1) bw1018 bw1120 bw1103 bw1121 hd_L_ofRelation ⟨Nat.le_of_ble_eq_true rfl, Nat.le_of_ble_eq_true rfl⟩ hP (va_D.eqv hD rfl) hS rfl hl.1 rfl (Nat.le_of_ble_eq_true rfl) dL_law_401 ⟨hcs.1, hcs.2⟩ (fun H locs hP hS => ?_)
    refine lv_istore (lv' := [(5, .int 0), (0, .ref b), (1, .ref (E.2.1 0)), (2, .ref ((Eq_ E qm).2.1 0)), (3, .ref bo), (4, .int x4)]) hx hb dL_law_404 hl (by decide) rfl (fun ls hl => ?_)
    refine lv_aload_n hx hb dL_law_406 rfl (lv_at hl 3 rfl) ?_
    refine lv_aload_n hx hb dL_law_407 rfl (lv_at hl 1 rfl) ?_
    refine lv_iload hx hb dL_law_408 (lv_at hl 5 rfl) ?_
    refine lv_iconst (v := 1) hx hb dL_law_410 (by decide) ?_
    refine lv_iadd hx hb dL_law_411 ?_
    refine va_sld hx hb hX hbl hbA hS (law_j ex4 hi hL 1 (by decide)) dL_law_412 ?_
    refine lv_aload_n hx hb dL_law_413 rfl (lv_at hl 1 rfl) ?_
    refine lv_iload hx hb dL_law_414 (lv_at hl 5 rfl) ?_
    refine lv_iconst (v := 2) hx hb dL_law_416 (by decide) ?_
    refine lv_iadd hx hb dL_law_417 ?_
    refine va_sld hx hb hX hbl hbA hS (law_j ex4 hi hL 2 (by decide)) dL_law_418 ?_
    refine lcM (As := [.int (xs (x4 + 1).toNatClampNeg), .int (xs (x4 + 2).toNatClampNeg)]) (rest := []) (k := 2) C0 (c_X12_ofRelation l (Eq_ E qm) gm am (xs (x4 + 1).toNatClampNeg) (xs (x4 + 2).toNatClampNeg) h2) bw795 bw1122 bw778 bw1123 bw1124 hd_X12_ofRelation ⟨Nat.le_of_ble_eq_true rfl, Nat.le_of_ble_eq_true rfl⟩ hP (va_D.eqv hD rfl) hS rfl hl.1 rfl (Nat.le_of_ble_eq_true rfl) dL_law_419 ⟨by show _ ≤ 601024; omega, by show _ ≤ 7293033; omega⟩ (fun H locs hP hS => ?_)
    refine lv_istore (lv' := [(6, .int zm.1), (5, .int 0), (0, .ref b), (1, .ref (E.2.1 0)), (2, .ref ((Eq_ E qm).2.1 0)), (3, .ref bo), (4, .int x4)]) hx hb dL_law_422 hl (by decide) rfl (fun ls hl => ?_)
    refine lv_aload_n hx hb dL_law_424 rfl (lv_at hl 4 rfl) ?_
    refine lcM (As := []) (rest := []) (k := 0) C0 (c_X12_thrown l (Eq_ E qm) zm.2 am) bw770 bw1107 bw778 bw1108 bw1109 hd_X12_thrown ⟨Nat.le_of_ble_eq_true rfl, Nat.le_of_ble_eq_true rfl⟩ hP (va_D.eqv hD rfl) hS rfl hl.1 rfl (Nat.le_of_ble_eq_true rfl) dL_law_425 ⟨by show _ ≤ 601024; omega, by show _ ≤ 7293033; omega⟩ (fun H locs hP hS => ?_)
    refine lv_iload hx hb dL_law_428 (lv_at hl 1 rfl) ?_
    refine lv_icmp_eq (tgt := 435) hx hb dL_law_430 (by decide) (fun _ => ?_) (fun c9 => absurd h3 c9)
    refine lv_iload hx hb dL_law_435 (lv_at hl 1 rfl) ?_
    refine lv_if_ne (tgt := 452) hx hb dL_law_437 (by decide) (fun c9 => absurd rfl c9) (fun _ => ?_)
    refine lv_aload_n hx hb dL_law_440 rfl (lv_at hl 5 rfl) ?_
    refine lv_iconst (v := 0) hx hb dL_law_441 (by decide) ?_
    refine va_lald hx hb hK hP 54 3 go_L rfl (inB_in (by decide)) dL_law_442 ?_
    refine lv_iload hx hb dL_law_443 (lv_at hl 0 rfl) ?_
    refine lv_i2l (v := ((zm.1 : Int32).toInt64)) hx hb dL_law_445 rfl ?_
    refine W.lcmp hx hb dL_law_446 ?_
    refine lv_if_eq (tgt := 452) hx hb dL_law_447 (by decide) (fun _ => ?_) (fun c9 => absurd (lg_self (congrArg Int32.toInt64 h4)) c9)
    refine lv_goto (tgt := 1719) hx hb dL_law_452 (by decide) ?_
    refine W.widen (k := CE + 2) (n := SE + 54) (by omega) (by omega) ?_
    exact hk g a zm.2 am (vp_updL fo 0 ((z : Int32).toInt64)) H locs ls hI9 hP hS (lv_sub hl [2, 3, 4, 5, 6] rfl)
  · refine lcW (As := [.ref (E.2.1 0), .int (xs (x4 + 1).toNatClampNeg), .int (xs (x4 + 2).toNatClampNeg), .ref bo]) (rest := []) (k := 4) C0 (c_L_ofRelation_t3 l hstk E g a (xs (x4 + 1).toNatClampNeg) (xs (x4 + 2).toNatClampNeg) bo fo h1 h5) bw1018 bw1120 bw1103 bw1121 hd_L_ofRelation ⟨Nat.le_of_ble_eq_true rfl, Nat.le_of_ble_eq_true rfl⟩ hP (va_D.eqv hD rfl) hS rfl hl.1 rfl (Nat.le_of_ble_eq_true rfl) dL_law_401 ⟨hcs.1, hcs.2⟩ (fun H locs hP hS => ?_)
    refine lv_istore (lv' := [(5, .int 1), (0, .ref b), (1, .ref (E.2.1 0)), (2, .ref ((Eq_ E qm).2.1 0)), (3, .ref bo), (4, .int x4)]) hx hb dL_law_404 hl (by decide) rfl (fun ls hl => ?_)
    refine lv_aload_n hx hb dL_law_406 rfl (lv_at hl 3 rfl) ?_
    refine lv_aload_n hx hb dL_law_407 rfl (lv_at hl 1 rfl) ?_
    refine lv_iload hx hb dL_law_408 (lv_at hl 5 rfl) ?_
    refine lv_iconst (v := 1) hx hb dL_law_410 (by decide) ?_
    refine lv_iadd hx hb dL_law_411 ?_
    refine va_sld hx hb hX hbl hbA hS (law_j ex4 hi hL 1 (by decide)) dL_law_412 ?_
    refine lv_aload_n hx hb dL_law_413 rfl (lv_at hl 1 rfl) ?_
    refine lv_iload hx hb dL_law_414 (lv_at hl 5 rfl) ?_
    refine lv_iconst (v := 2) hx hb dL_law_416 (by decide) ?_
    refine lv_iadd hx hb dL_law_417 ?_
    refine va_sld hx hb hX hbl hbA hS (law_j ex4 hi hL 2 (by decide)) dL_law_418 ?_
    refine lcM (As := [.int (xs (x4 + 1).toNatClampNeg), .int (xs (x4 + 2).toNatClampNeg)]) (rest := []) (k := 2) C0 (c_X12_ofRelation l (Eq_ E qm) gm am (xs (x4 + 1).toNatClampNeg) (xs (x4 + 2).toNatClampNeg) h2) bw795 bw1122 bw778 bw1123 bw1124 hd_X12_ofRelation ⟨Nat.le_of_ble_eq_true rfl, Nat.le_of_ble_eq_true rfl⟩ hP (va_D.eqv hD rfl) hS rfl hl.1 rfl (Nat.le_of_ble_eq_true rfl) dL_law_419 ⟨by show _ ≤ 601024; omega, by show _ ≤ 7293033; omega⟩ (fun H locs hP hS => ?_)
    refine lv_istore (lv' := [(6, .int zm.1), (5, .int 1), (0, .ref b), (1, .ref (E.2.1 0)), (2, .ref ((Eq_ E qm).2.1 0)), (3, .ref bo), (4, .int x4)]) hx hb dL_law_422 hl (by decide) rfl (fun ls hl => ?_)
    refine lv_aload_n hx hb dL_law_424 rfl (lv_at hl 4 rfl) ?_
    refine lcM (As := []) (rest := []) (k := 0) C0 (c_X12_thrown l (Eq_ E qm) zm.2 am) bw770 bw1107 bw778 bw1108 bw1109 hd_X12_thrown ⟨Nat.le_of_ble_eq_true rfl, Nat.le_of_ble_eq_true rfl⟩ hP (va_D.eqv hD rfl) hS rfl hl.1 rfl (Nat.le_of_ble_eq_true rfl) dL_law_425 ⟨by show _ ≤ 601024; omega, by show _ ≤ 7293033; omega⟩ (fun H locs hP hS => ?_)
    refine lv_iload hx hb dL_law_428 (lv_at hl 1 rfl) ?_
    refine lv_icmp_eq (tgt := 435) hx hb dL_law_430 (by decide) (fun _ => ?_) (fun c9 => absurd h3 c9)
    refine lv_iload hx hb dL_law_435 (lv_at hl 1 rfl) ?_
    refine lv_if_ne (tgt := 452) hx hb dL_law_437 (by decide) (fun _ => ?_) (fun c9 => absurd c9 (by decide))
    refine lv_goto (tgt := 1719) hx hb dL_law_452 (by decide) ?_
    refine W.widen (k := CE + 2) (n := SE + 54) (by omega) (by omega) ?_
    exact hk g a zm.2 am fo H locs ls hI9 hP hS (lv_sub hl [2, 3, 4, 5, 6] rfl)
  · refine lcW (As := [.ref (E.2.1 0), .int (xs (x4 + 1).toNatClampNeg), .int (xs (x4 + 2).toNatClampNeg), .ref bo]) (rest := []) (k := 4) C0 (c_L_ofRelation_t1 l hstk E g a (xs (x4 + 1).toNatClampNeg) (xs (x4 + 2).toNatClampNeg) bo fo h1 h5) bw1018 bw1120 bw1103 bw1121 hd_L_ofRelation ⟨Nat.le_of_ble_eq_true rfl, Nat.le_of_ble_eq_true rfl⟩ hP (va_D.eqv hD rfl) hS rfl hl.1 rfl (Nat.le_of_ble_eq_true rfl) dL_law_401 ⟨hcs.1, hcs.2⟩ (fun H locs hP hS => ?_)
    refine lv_istore (lv' := [(5, .int 2), (0, .ref b), (1, .ref (E.2.1 0)), (2, .ref ((Eq_ E qm).2.1 0)), (3, .ref bo), (4, .int x4)]) hx hb dL_law_404 hl (by decide) rfl (fun ls hl => ?_)
    refine lv_aload_n hx hb dL_law_406 rfl (lv_at hl 3 rfl) ?_
    refine lv_aload_n hx hb dL_law_407 rfl (lv_at hl 1 rfl) ?_
    refine lv_iload hx hb dL_law_408 (lv_at hl 5 rfl) ?_
    refine lv_iconst (v := 1) hx hb dL_law_410 (by decide) ?_
    refine lv_iadd hx hb dL_law_411 ?_
    refine va_sld hx hb hX hbl hbA hS (law_j ex4 hi hL 1 (by decide)) dL_law_412 ?_
    refine lv_aload_n hx hb dL_law_413 rfl (lv_at hl 1 rfl) ?_
    refine lv_iload hx hb dL_law_414 (lv_at hl 5 rfl) ?_
    refine lv_iconst (v := 2) hx hb dL_law_416 (by decide) ?_
    refine lv_iadd hx hb dL_law_417 ?_
    refine va_sld hx hb hX hbl hbA hS (law_j ex4 hi hL 2 (by decide)) dL_law_418 ?_
    refine lcM (As := [.int (xs (x4 + 1).toNatClampNeg), .int (xs (x4 + 2).toNatClampNeg)]) (rest := []) (k := 2) C0 (c_X12_ofRelation l (Eq_ E qm) gm am (xs (x4 + 1).toNatClampNeg) (xs (x4 + 2).toNatClampNeg) h2) bw795 bw1122 bw778 bw1123 bw1124 hd_X12_ofRelation ⟨Nat.le_of_ble_eq_true rfl, Nat.le_of_ble_eq_true rfl⟩ hP (va_D.eqv hD rfl) hS rfl hl.1 rfl (Nat.le_of_ble_eq_true rfl) dL_law_419 ⟨by show _ ≤ 601024; omega, by show _ ≤ 7293033; omega⟩ (fun H locs hP hS => ?_)
    refine lv_istore (lv' := [(6, .int zm.1), (5, .int 2), (0, .ref b), (1, .ref (E.2.1 0)), (2, .ref ((Eq_ E qm).2.1 0)), (3, .ref bo), (4, .int x4)]) hx hb dL_law_422 hl (by decide) rfl (fun ls hl => ?_)
    refine lv_aload_n hx hb dL_law_424 rfl (lv_at hl 4 rfl) ?_
    refine lcM (As := []) (rest := []) (k := 0) C0 (c_X12_thrown l (Eq_ E qm) zm.2 am) bw770 bw1107 bw778 bw1108 bw1109 hd_X12_thrown ⟨Nat.le_of_ble_eq_true rfl, Nat.le_of_ble_eq_true rfl⟩ hP (va_D.eqv hD rfl) hS rfl hl.1 rfl (Nat.le_of_ble_eq_true rfl) dL_law_425 ⟨by show _ ≤ 601024; omega, by show _ ≤ 7293033; omega⟩ (fun H locs hP hS => ?_)
    refine lv_iload hx hb dL_law_428 (lv_at hl 1 rfl) ?_
    refine lv_icmp_eq (tgt := 435) hx hb dL_law_430 (by decide) (fun _ => ?_) (fun c9 => absurd h3 c9)
    refine lv_iload hx hb dL_law_435 (lv_at hl 1 rfl) ?_
    refine lv_if_ne (tgt := 452) hx hb dL_law_437 (by decide) (fun _ => ?_) (fun c9 => absurd c9 (by decide))
    refine lv_goto (tgt := 1719) hx hb dL_law_452 (by decide) ?_
    refine W.widen (k := CE + 2) (n := SE + 54) (by omega) (by omega) ?_
    exact hk g a zm.2 am fo H locs ls hI9 hP hS (lv_sub hl [2, 3, 4, 5, 6] rfl)
set_option maxRecDepth 100000 in
set_option maxHeartbeats 40000000 in
theorem lc_operation {p : Program} {l : Launch} {e : Env} {s : State} {m : MethodId} {below : List Frame} {meth : Method} {c : Code} {b L : Nat} {xs : Nat → Int32} {E : xE} (C0 : lwC p l s m c b L xs E) {I : xG → xA → xG → xA → Prop} (O : ob_operation I) {g : xG} {a : xA} {gm : xG} {am : xA} (hI : I g a gm am) {i : Nat} {x4 : Int32} (ex4 : x4 = nI i) (hi : i + 5 ≤ L) (hL : L ≤ 2560) {bo : Nat} {fo : Nat → Int64} {qm : Nat → Nat} {H : Heap} {locs : List Loc} {CE SE : Nat} (hCE : CE ≤ 600000) (hSE : SE ≤ 7000000) {Q : State → Prop} (hP : va_P E.1 vwCl (wL E qm g a bo fo gm am) H) (hD : va_D (A0 s) (wL E qm g a bo fo gm am)) (hS : va_S (A0 s) s.heap H locs) {ls : Array Slot} (hl : lv_has ls 8 [(0, .ref b), (1, .ref (E.2.1 0)), (2, .ref ((Eq_ E qm).2.1 0)), (3, .ref bo), (4, .int x4)])
    (hk : ∀ (g : xG) (a : xA) (gm : xG) (am : xA) (fo : Nat → Int64) (H : Heap) (locs : List Loc) (ls : Array Slot), I g a gm am → va_P E.1 vwCl (wL E qm g a bo fo gm am) H → va_S (A0 s) s.heap H locs → lv_has ls 8 [(0, .ref b), (1, .ref (E.2.1 0)), (2, .ref ((Eq_ E qm).2.1 0)), (3, .ref bo), (4, .int x4)] → W p l e room_1 s m #[Value.ref b] below meth c H locs (CE + 2) (SE + 54) Q (F0 m 1719 ls [])) : W p l e room_1 s m #[Value.ref b] below meth c H locs CE SE Q (F0 m 455 ls []) := by
  obtain ⟨hx, hb, hml, hown, hw, hK, hN, hT, hst, hz, hnc, hX, hbl, hstk⟩ := id C0
  have hbA : ¬ (A0 s) b := Nat.not_le.mpr hbl
  have hcs : CE + 1 ≤ room_1.cells ∧ SE + 6 ≤ room_1.slots := ⟨by show _ ≤ 601024; omega, by show _ ≤ 7293033; omega⟩
  refine lv_aload_n hx hb dL_law_455 rfl (lv_at hl 1 rfl) ?_
  refine lv_aload_n hx hb dL_law_456 rfl (lv_at hl 0 rfl) ?_
  refine lv_iload hx hb dL_law_457 (lv_at hl 4 rfl) ?_
  refine lv_iconst (v := 1) hx hb dL_law_459 (by decide) ?_
  refine lv_iadd hx hb dL_law_460 ?_
  refine va_sld hx hb hX hbl hbA hS (law_j ex4 hi hL 1 (by decide)) dL_law_461 ?_
  refine lv_aload_n hx hb dL_law_462 rfl (lv_at hl 3 rfl) ?_
  rcases O g a gm am (xs (x4 + 1).toNatClampNeg) hI with ⟨z, zm, h1, h2, h3, h4, hI9⟩ | ⟨z, zm, h1, h5, h2, h3, hI9⟩ | ⟨z, zm, h1, h5, h2, h3, hI9⟩
  · refine lcW (As := [.ref (E.2.1 0), .int (xs (x4 + 1).toNatClampNeg), .ref bo]) (rest := []) (k := 3) C0 (c_L_operation_r l hstk E g a (xs (x4 + 1).toNatClampNeg) bo fo h1) bw1022 bw1125 bw1103 bw1126 hd_L_operation ⟨Nat.le_of_ble_eq_true rfl, Nat.le_of_ble_eq_true rfl⟩ hP (va_D.eqv hD rfl) hS rfl hl.1 rfl (Nat.le_of_ble_eq_true rfl) dL_law_463 ⟨hcs.1, hcs.2⟩ (fun H locs hP hS => ?_)
    refine lv_istore (lv' := [(5, .int 0), (0, .ref b), (1, .ref (E.2.1 0)), (2, .ref ((Eq_ E qm).2.1 0)), (3, .ref bo), (4, .int x4)]) hx hb dL_law_466 hl (by decide) rfl (fun ls hl => ?_)
    refine lv_aload_n hx hb dL_law_468 rfl (lv_at hl 3 rfl) ?_
    refine lv_aload_n hx hb dL_law_469 rfl (lv_at hl 1 rfl) ?_
    refine lv_iload hx hb dL_law_470 (lv_at hl 5 rfl) ?_
    refine lv_iconst (v := 1) hx hb dL_law_472 (by decide) ?_
    refine lv_iadd hx hb dL_law_473 ?_
    refine va_sld hx hb hX hbl hbA hS (law_j ex4 hi hL 1 (by decide)) dL_law_474 ?_
    refine lcM (As := [.int (xs (x4 + 1).toNatClampNeg)]) (rest := []) (k := 1) C0 (c_X12_operation l (Eq_ E qm) gm am (xs (x4 + 1).toNatClampNeg) h2) bw799 bw1127 bw778 bw1128 bw1129 hd_X12_operation ⟨Nat.le_of_ble_eq_true rfl, Nat.le_of_ble_eq_true rfl⟩ hP (va_D.eqv hD rfl) hS rfl hl.1 rfl (Nat.le_of_ble_eq_true rfl) dL_law_475 ⟨by show _ ≤ 601024; omega, by show _ ≤ 7293033; omega⟩ (fun H locs hP hS => ?_)
    refine lv_istore (lv' := [(6, .int zm.1), (5, .int 0), (0, .ref b), (1, .ref (E.2.1 0)), (2, .ref ((Eq_ E qm).2.1 0)), (3, .ref bo), (4, .int x4)]) hx hb dL_law_478 hl (by decide) rfl (fun ls hl => ?_)
    refine lv_aload_n hx hb dL_law_480 rfl (lv_at hl 4 rfl) ?_
    refine lcM (As := []) (rest := []) (k := 0) C0 (c_X12_thrown l (Eq_ E qm) zm.2.1 zm.2.2) bw770 bw1107 bw778 bw1108 bw1109 hd_X12_thrown ⟨Nat.le_of_ble_eq_true rfl, Nat.le_of_ble_eq_true rfl⟩ hP (va_D.eqv hD rfl) hS rfl hl.1 rfl (Nat.le_of_ble_eq_true rfl) dL_law_481 ⟨by show _ ≤ 601024; omega, by show _ ≤ 7293033; omega⟩ (fun H locs hP hS => ?_)
    refine lv_iload hx hb dL_law_484 (lv_at hl 1 rfl) ?_
    refine lv_icmp_eq (tgt := 491) hx hb dL_law_486 (by decide) (fun _ => ?_) (fun c9 => absurd h3 c9)
    refine lv_iload hx hb dL_law_491 (lv_at hl 1 rfl) ?_
    refine lv_if_ne (tgt := 508) hx hb dL_law_493 (by decide) (fun c9 => absurd rfl c9) (fun _ => ?_)
    refine lv_aload_n hx hb dL_law_496 rfl (lv_at hl 5 rfl) ?_
    refine lv_iconst (v := 0) hx hb dL_law_497 (by decide) ?_
    refine va_lald hx hb hK hP 54 3 go_L rfl (inB_in (by decide)) dL_law_498 ?_
    refine lv_iload hx hb dL_law_499 (lv_at hl 0 rfl) ?_
    refine lv_i2l (v := ((zm.1 : Int32).toInt64)) hx hb dL_law_501 rfl ?_
    refine W.lcmp hx hb dL_law_502 ?_
    refine lv_if_eq (tgt := 508) hx hb dL_law_503 (by decide) (fun _ => ?_) (fun c9 => absurd (lg_self (congrArg Int32.toInt64 h4)) c9)
    refine lv_goto (tgt := 1719) hx hb dL_law_508 (by decide) ?_
    refine W.widen (k := CE + 2) (n := SE + 54) (by omega) (by omega) ?_
    exact hk z.2.1 z.2.2 zm.2.1 zm.2.2 (vp_updL fo 0 ((z.1 : Int32).toInt64)) H locs ls hI9 hP hS (lv_sub hl [2, 3, 4, 5, 6] rfl)
  · refine lcW (As := [.ref (E.2.1 0), .int (xs (x4 + 1).toNatClampNeg), .ref bo]) (rest := []) (k := 3) C0 (c_L_operation_t1 l hstk E g a (xs (x4 + 1).toNatClampNeg) bo fo h1 h5) bw1022 bw1125 bw1103 bw1126 hd_L_operation ⟨Nat.le_of_ble_eq_true rfl, Nat.le_of_ble_eq_true rfl⟩ hP (va_D.eqv hD rfl) hS rfl hl.1 rfl (Nat.le_of_ble_eq_true rfl) dL_law_463 ⟨hcs.1, hcs.2⟩ (fun H locs hP hS => ?_)
    refine lv_istore (lv' := [(5, .int 1), (0, .ref b), (1, .ref (E.2.1 0)), (2, .ref ((Eq_ E qm).2.1 0)), (3, .ref bo), (4, .int x4)]) hx hb dL_law_466 hl (by decide) rfl (fun ls hl => ?_)
    refine lv_aload_n hx hb dL_law_468 rfl (lv_at hl 3 rfl) ?_
    refine lv_aload_n hx hb dL_law_469 rfl (lv_at hl 1 rfl) ?_
    refine lv_iload hx hb dL_law_470 (lv_at hl 5 rfl) ?_
    refine lv_iconst (v := 1) hx hb dL_law_472 (by decide) ?_
    refine lv_iadd hx hb dL_law_473 ?_
    refine va_sld hx hb hX hbl hbA hS (law_j ex4 hi hL 1 (by decide)) dL_law_474 ?_
    refine lcM (As := [.int (xs (x4 + 1).toNatClampNeg)]) (rest := []) (k := 1) C0 (c_X12_operation l (Eq_ E qm) gm am (xs (x4 + 1).toNatClampNeg) h2) bw799 bw1127 bw778 bw1128 bw1129 hd_X12_operation ⟨Nat.le_of_ble_eq_true rfl, Nat.le_of_ble_eq_true rfl⟩ hP (va_D.eqv hD rfl) hS rfl hl.1 rfl (Nat.le_of_ble_eq_true rfl) dL_law_475 ⟨by show _ ≤ 601024; omega, by show _ ≤ 7293033; omega⟩ (fun H locs hP hS => ?_)
    refine lv_istore (lv' := [(6, .int zm.1), (5, .int 1), (0, .ref b), (1, .ref (E.2.1 0)), (2, .ref ((Eq_ E qm).2.1 0)), (3, .ref bo), (4, .int x4)]) hx hb dL_law_478 hl (by decide) rfl (fun ls hl => ?_)
    refine lv_aload_n hx hb dL_law_480 rfl (lv_at hl 4 rfl) ?_
    refine lcM (As := []) (rest := []) (k := 0) C0 (c_X12_thrown l (Eq_ E qm) zm.2.1 zm.2.2) bw770 bw1107 bw778 bw1108 bw1109 hd_X12_thrown ⟨Nat.le_of_ble_eq_true rfl, Nat.le_of_ble_eq_true rfl⟩ hP (va_D.eqv hD rfl) hS rfl hl.1 rfl (Nat.le_of_ble_eq_true rfl) dL_law_481 ⟨by show _ ≤ 601024; omega, by show _ ≤ 7293033; omega⟩ (fun H locs hP hS => ?_)
    refine lv_iload hx hb dL_law_484 (lv_at hl 1 rfl) ?_
    refine lv_icmp_eq (tgt := 491) hx hb dL_law_486 (by decide) (fun _ => ?_) (fun c9 => absurd h3 c9)
    refine lv_iload hx hb dL_law_491 (lv_at hl 1 rfl) ?_
    refine lv_if_ne (tgt := 508) hx hb dL_law_493 (by decide) (fun _ => ?_) (fun c9 => absurd c9 (by decide))
    refine lv_goto (tgt := 1719) hx hb dL_law_508 (by decide) ?_
    refine W.widen (k := CE + 2) (n := SE + 54) (by omega) (by omega) ?_
    exact hk z.2.1 z.2.2 zm.2.1 zm.2.2 fo H locs ls hI9 hP hS (lv_sub hl [2, 3, 4, 5, 6] rfl)
  · refine lcW (As := [.ref (E.2.1 0), .int (xs (x4 + 1).toNatClampNeg), .ref bo]) (rest := []) (k := 3) C0 (c_L_operation_t2 l hstk E g a (xs (x4 + 1).toNatClampNeg) bo fo h1 h5) bw1022 bw1125 bw1103 bw1126 hd_L_operation ⟨Nat.le_of_ble_eq_true rfl, Nat.le_of_ble_eq_true rfl⟩ hP (va_D.eqv hD rfl) hS rfl hl.1 rfl (Nat.le_of_ble_eq_true rfl) dL_law_463 ⟨hcs.1, hcs.2⟩ (fun H locs hP hS => ?_)
    refine lv_istore (lv' := [(5, .int 2), (0, .ref b), (1, .ref (E.2.1 0)), (2, .ref ((Eq_ E qm).2.1 0)), (3, .ref bo), (4, .int x4)]) hx hb dL_law_466 hl (by decide) rfl (fun ls hl => ?_)
    refine lv_aload_n hx hb dL_law_468 rfl (lv_at hl 3 rfl) ?_
    refine lv_aload_n hx hb dL_law_469 rfl (lv_at hl 1 rfl) ?_
    refine lv_iload hx hb dL_law_470 (lv_at hl 5 rfl) ?_
    refine lv_iconst (v := 1) hx hb dL_law_472 (by decide) ?_
    refine lv_iadd hx hb dL_law_473 ?_
    refine va_sld hx hb hX hbl hbA hS (law_j ex4 hi hL 1 (by decide)) dL_law_474 ?_
    refine lcM (As := [.int (xs (x4 + 1).toNatClampNeg)]) (rest := []) (k := 1) C0 (c_X12_operation l (Eq_ E qm) gm am (xs (x4 + 1).toNatClampNeg) h2) bw799 bw1127 bw778 bw1128 bw1129 hd_X12_operation ⟨Nat.le_of_ble_eq_true rfl, Nat.le_of_ble_eq_true rfl⟩ hP (va_D.eqv hD rfl) hS rfl hl.1 rfl (Nat.le_of_ble_eq_true rfl) dL_law_475 ⟨by show _ ≤ 601024; omega, by show _ ≤ 7293033; omega⟩ (fun H locs hP hS => ?_)
    refine lv_istore (lv' := [(6, .int zm.1), (5, .int 2), (0, .ref b), (1, .ref (E.2.1 0)), (2, .ref ((Eq_ E qm).2.1 0)), (3, .ref bo), (4, .int x4)]) hx hb dL_law_478 hl (by decide) rfl (fun ls hl => ?_)
    refine lv_aload_n hx hb dL_law_480 rfl (lv_at hl 4 rfl) ?_
    refine lcM (As := []) (rest := []) (k := 0) C0 (c_X12_thrown l (Eq_ E qm) zm.2.1 zm.2.2) bw770 bw1107 bw778 bw1108 bw1109 hd_X12_thrown ⟨Nat.le_of_ble_eq_true rfl, Nat.le_of_ble_eq_true rfl⟩ hP (va_D.eqv hD rfl) hS rfl hl.1 rfl (Nat.le_of_ble_eq_true rfl) dL_law_481 ⟨by show _ ≤ 601024; omega, by show _ ≤ 7293033; omega⟩ (fun H locs hP hS => ?_)
    refine lv_iload hx hb dL_law_484 (lv_at hl 1 rfl) ?_
    refine lv_icmp_eq (tgt := 491) hx hb dL_law_486 (by decide) (fun _ => ?_) (fun c9 => absurd h3 c9)
    refine lv_iload hx hb dL_law_491 (lv_at hl 1 rfl) ?_
    refine lv_if_ne (tgt := 508) hx hb dL_law_493 (by decide) (fun _ => ?_) (fun c9 => absurd c9 (by decide))
    refine lv_goto (tgt := 1719) hx hb dL_law_508 (by decide) ?_
    refine W.widen (k := CE + 2) (n := SE + 54) (by omega) (by omega) ?_
    exact hk z.2.1 z.2.2 zm.2.1 zm.2.2 fo H locs ls hI9 hP hS (lv_sub hl [2, 3, 4, 5, 6] rfl)
set_option maxRecDepth 100000 in
set_option maxHeartbeats 40000000 in
theorem lc_make {p : Program} {l : Launch} {e : Env} {s : State} {m : MethodId} {below : List Frame} {meth : Method} {c : Code} {b L : Nat} {xs : Nat → Int32} {E : xE} (C0 : lwC p l s m c b L xs E) {I : xG → xA → xG → xA → Prop} (O : ob_make I) {g : xG} {a : xA} {gm : xG} {am : xA} (hI : I g a gm am) {i : Nat} {x4 : Int32} (ex4 : x4 = nI i) (hi : i + 5 ≤ L) (hL : L ≤ 2560) {bo : Nat} {fo : Nat → Int64} {qm : Nat → Nat} {H : Heap} {locs : List Loc} {CE SE : Nat} (hCE : CE ≤ 600000) (hSE : SE ≤ 7000000) {Q : State → Prop} (hP : va_P E.1 vwCl (wL E qm g a bo fo gm am) H) (hD : va_D (A0 s) (wL E qm g a bo fo gm am)) (hS : va_S (A0 s) s.heap H locs) {ls : Array Slot} (hl : lv_has ls 8 [(0, .ref b), (1, .ref (E.2.1 0)), (2, .ref ((Eq_ E qm).2.1 0)), (3, .ref bo), (4, .int x4)])
    (hk : ∀ (g : xG) (a : xA) (gm : xG) (am : xA) (fo : Nat → Int64) (H : Heap) (locs : List Loc) (ls : Array Slot), I g a gm am → va_P E.1 vwCl (wL E qm g a bo fo gm am) H → va_S (A0 s) s.heap H locs → lv_has ls 8 [(0, .ref b), (1, .ref (E.2.1 0)), (2, .ref ((Eq_ E qm).2.1 0)), (3, .ref bo), (4, .int x4)] → W p l e room_1 s m #[Value.ref b] below meth c H locs (CE + 2) (SE + 54) Q (F0 m 1719 ls [])) : W p l e room_1 s m #[Value.ref b] below meth c H locs CE SE Q (F0 m 511 ls []) := by
  obtain ⟨hx, hb, hml, hown, hw, hK, hN, hT, hst, hz, hnc, hX, hbl, hstk⟩ := id C0
  have hbA : ¬ (A0 s) b := Nat.not_le.mpr hbl
  have hcs : CE + 1 ≤ room_1.cells ∧ SE + 6 ≤ room_1.slots := ⟨by show _ ≤ 601024; omega, by show _ ≤ 7293033; omega⟩
  refine lv_aload_n hx hb dL_law_511 rfl (lv_at hl 1 rfl) ?_
  refine lv_aload_n hx hb dL_law_512 rfl (lv_at hl 0 rfl) ?_
  refine lv_iload hx hb dL_law_513 (lv_at hl 4 rfl) ?_
  refine lv_iconst (v := 1) hx hb dL_law_515 (by decide) ?_
  refine lv_iadd hx hb dL_law_516 ?_
  refine va_sld hx hb hX hbl hbA hS (law_j ex4 hi hL 1 (by decide)) dL_law_517 ?_
  refine lv_aload_n hx hb dL_law_518 rfl (lv_at hl 3 rfl) ?_
  rcases O g a gm am (xs (x4 + 1).toNatClampNeg) hI with ⟨z, zm, h1, h2, h3, h4, hI9⟩ | ⟨z, zm, h1, h5, h2, h3, hI9⟩ | ⟨z, zm, h1, h5, h2, h3, hI9⟩
  · refine lcW (As := [.ref (E.2.1 0), .int (xs (x4 + 1).toNatClampNeg), .ref bo]) (rest := []) (k := 3) C0 (c_L_make_r l hstk E g a (xs (x4 + 1).toNatClampNeg) bo fo h1) bw1026 bw1130 bw1103 bw1131 hd_L_make ⟨Nat.le_of_ble_eq_true rfl, Nat.le_of_ble_eq_true rfl⟩ hP (va_D.eqv hD rfl) hS rfl hl.1 rfl (Nat.le_of_ble_eq_true rfl) dL_law_519 ⟨hcs.1, hcs.2⟩ (fun H locs hP hS => ?_)
    refine lv_istore (lv' := [(5, .int 0), (0, .ref b), (1, .ref (E.2.1 0)), (2, .ref ((Eq_ E qm).2.1 0)), (3, .ref bo), (4, .int x4)]) hx hb dL_law_522 hl (by decide) rfl (fun ls hl => ?_)
    refine lv_aload_n hx hb dL_law_524 rfl (lv_at hl 3 rfl) ?_
    refine lv_aload_n hx hb dL_law_525 rfl (lv_at hl 1 rfl) ?_
    refine lv_iload hx hb dL_law_526 (lv_at hl 5 rfl) ?_
    refine lv_iconst (v := 1) hx hb dL_law_528 (by decide) ?_
    refine lv_iadd hx hb dL_law_529 ?_
    refine va_sld hx hb hX hbl hbA hS (law_j ex4 hi hL 1 (by decide)) dL_law_530 ?_
    refine lcM (As := [.int (xs (x4 + 1).toNatClampNeg)]) (rest := []) (k := 1) C0 (c_X12_make l (Eq_ E qm) gm am (xs (x4 + 1).toNatClampNeg) h2) bw808 bw1132 bw778 bw1133 bw1134 hd_X12_make ⟨Nat.le_of_ble_eq_true rfl, Nat.le_of_ble_eq_true rfl⟩ hP (va_D.eqv hD rfl) hS rfl hl.1 rfl (Nat.le_of_ble_eq_true rfl) dL_law_531 ⟨by show _ ≤ 601024; omega, by show _ ≤ 7293033; omega⟩ (fun H locs hP hS => ?_)
    refine lv_istore (lv' := [(6, .int zm.1), (5, .int 0), (0, .ref b), (1, .ref (E.2.1 0)), (2, .ref ((Eq_ E qm).2.1 0)), (3, .ref bo), (4, .int x4)]) hx hb dL_law_534 hl (by decide) rfl (fun ls hl => ?_)
    refine lv_aload_n hx hb dL_law_536 rfl (lv_at hl 4 rfl) ?_
    refine lcM (As := []) (rest := []) (k := 0) C0 (c_X12_thrown l (Eq_ E qm) zm.2.1 zm.2.2) bw770 bw1107 bw778 bw1108 bw1109 hd_X12_thrown ⟨Nat.le_of_ble_eq_true rfl, Nat.le_of_ble_eq_true rfl⟩ hP (va_D.eqv hD rfl) hS rfl hl.1 rfl (Nat.le_of_ble_eq_true rfl) dL_law_537 ⟨by show _ ≤ 601024; omega, by show _ ≤ 7293033; omega⟩ (fun H locs hP hS => ?_)
    refine lv_iload hx hb dL_law_540 (lv_at hl 1 rfl) ?_
    refine lv_icmp_eq (tgt := 547) hx hb dL_law_542 (by decide) (fun _ => ?_) (fun c9 => absurd h3 c9)
    refine lv_iload hx hb dL_law_547 (lv_at hl 1 rfl) ?_
    refine lv_if_ne (tgt := 564) hx hb dL_law_549 (by decide) (fun c9 => absurd rfl c9) (fun _ => ?_)
    refine lv_aload_n hx hb dL_law_552 rfl (lv_at hl 5 rfl) ?_
    refine lv_iconst (v := 0) hx hb dL_law_553 (by decide) ?_
    refine va_lald hx hb hK hP 54 3 go_L rfl (inB_in (by decide)) dL_law_554 ?_
    refine lv_iload hx hb dL_law_555 (lv_at hl 0 rfl) ?_
    refine lv_i2l (v := ((zm.1 : Int32).toInt64)) hx hb dL_law_557 rfl ?_
    refine W.lcmp hx hb dL_law_558 ?_
    refine lv_if_eq (tgt := 564) hx hb dL_law_559 (by decide) (fun _ => ?_) (fun c9 => absurd (lg_self (congrArg Int32.toInt64 h4)) c9)
    refine lv_goto (tgt := 1719) hx hb dL_law_564 (by decide) ?_
    refine W.widen (k := CE + 2) (n := SE + 54) (by omega) (by omega) ?_
    exact hk z.2.1 z.2.2 zm.2.1 zm.2.2 (vp_updL fo 0 ((z.1 : Int32).toInt64)) H locs ls hI9 hP hS (lv_sub hl [2, 3, 4, 5, 6] rfl)
  · refine lcW (As := [.ref (E.2.1 0), .int (xs (x4 + 1).toNatClampNeg), .ref bo]) (rest := []) (k := 3) C0 (c_L_make_t1 l hstk E g a (xs (x4 + 1).toNatClampNeg) bo fo h1 h5) bw1026 bw1130 bw1103 bw1131 hd_L_make ⟨Nat.le_of_ble_eq_true rfl, Nat.le_of_ble_eq_true rfl⟩ hP (va_D.eqv hD rfl) hS rfl hl.1 rfl (Nat.le_of_ble_eq_true rfl) dL_law_519 ⟨hcs.1, hcs.2⟩ (fun H locs hP hS => ?_)
    refine lv_istore (lv' := [(5, .int 1), (0, .ref b), (1, .ref (E.2.1 0)), (2, .ref ((Eq_ E qm).2.1 0)), (3, .ref bo), (4, .int x4)]) hx hb dL_law_522 hl (by decide) rfl (fun ls hl => ?_)
    refine lv_aload_n hx hb dL_law_524 rfl (lv_at hl 3 rfl) ?_
    refine lv_aload_n hx hb dL_law_525 rfl (lv_at hl 1 rfl) ?_
    refine lv_iload hx hb dL_law_526 (lv_at hl 5 rfl) ?_
    refine lv_iconst (v := 1) hx hb dL_law_528 (by decide) ?_
    refine lv_iadd hx hb dL_law_529 ?_
    refine va_sld hx hb hX hbl hbA hS (law_j ex4 hi hL 1 (by decide)) dL_law_530 ?_
    refine lcM (As := [.int (xs (x4 + 1).toNatClampNeg)]) (rest := []) (k := 1) C0 (c_X12_make l (Eq_ E qm) gm am (xs (x4 + 1).toNatClampNeg) h2) bw808 bw1132 bw778 bw1133 bw1134 hd_X12_make ⟨Nat.le_of_ble_eq_true rfl, Nat.le_of_ble_eq_true rfl⟩ hP (va_D.eqv hD rfl) hS rfl hl.1 rfl (Nat.le_of_ble_eq_true rfl) dL_law_531 ⟨by show _ ≤ 601024; omega, by show _ ≤ 7293033; omega⟩ (fun H locs hP hS => ?_)
    refine lv_istore (lv' := [(6, .int zm.1), (5, .int 1), (0, .ref b), (1, .ref (E.2.1 0)), (2, .ref ((Eq_ E qm).2.1 0)), (3, .ref bo), (4, .int x4)]) hx hb dL_law_534 hl (by decide) rfl (fun ls hl => ?_)
    refine lv_aload_n hx hb dL_law_536 rfl (lv_at hl 4 rfl) ?_
    refine lcM (As := []) (rest := []) (k := 0) C0 (c_X12_thrown l (Eq_ E qm) zm.2.1 zm.2.2) bw770 bw1107 bw778 bw1108 bw1109 hd_X12_thrown ⟨Nat.le_of_ble_eq_true rfl, Nat.le_of_ble_eq_true rfl⟩ hP (va_D.eqv hD rfl) hS rfl hl.1 rfl (Nat.le_of_ble_eq_true rfl) dL_law_537 ⟨by show _ ≤ 601024; omega, by show _ ≤ 7293033; omega⟩ (fun H locs hP hS => ?_)
    refine lv_iload hx hb dL_law_540 (lv_at hl 1 rfl) ?_
    refine lv_icmp_eq (tgt := 547) hx hb dL_law_542 (by decide) (fun _ => ?_) (fun c9 => absurd h3 c9)
    refine lv_iload hx hb dL_law_547 (lv_at hl 1 rfl) ?_
    refine lv_if_ne (tgt := 564) hx hb dL_law_549 (by decide) (fun _ => ?_) (fun c9 => absurd c9 (by decide))
    refine lv_goto (tgt := 1719) hx hb dL_law_564 (by decide) ?_
    refine W.widen (k := CE + 2) (n := SE + 54) (by omega) (by omega) ?_
    exact hk z.2.1 z.2.2 zm.2.1 zm.2.2 fo H locs ls hI9 hP hS (lv_sub hl [2, 3, 4, 5, 6] rfl)
  · refine lcW (As := [.ref (E.2.1 0), .int (xs (x4 + 1).toNatClampNeg), .ref bo]) (rest := []) (k := 3) C0 (c_L_make_t2 l hstk E g a (xs (x4 + 1).toNatClampNeg) bo fo h1 h5) bw1026 bw1130 bw1103 bw1131 hd_L_make ⟨Nat.le_of_ble_eq_true rfl, Nat.le_of_ble_eq_true rfl⟩ hP (va_D.eqv hD rfl) hS rfl hl.1 rfl (Nat.le_of_ble_eq_true rfl) dL_law_519 ⟨hcs.1, hcs.2⟩ (fun H locs hP hS => ?_)
    refine lv_istore (lv' := [(5, .int 2), (0, .ref b), (1, .ref (E.2.1 0)), (2, .ref ((Eq_ E qm).2.1 0)), (3, .ref bo), (4, .int x4)]) hx hb dL_law_522 hl (by decide) rfl (fun ls hl => ?_)
    refine lv_aload_n hx hb dL_law_524 rfl (lv_at hl 3 rfl) ?_
    refine lv_aload_n hx hb dL_law_525 rfl (lv_at hl 1 rfl) ?_
    refine lv_iload hx hb dL_law_526 (lv_at hl 5 rfl) ?_
    refine lv_iconst (v := 1) hx hb dL_law_528 (by decide) ?_
    refine lv_iadd hx hb dL_law_529 ?_
    refine va_sld hx hb hX hbl hbA hS (law_j ex4 hi hL 1 (by decide)) dL_law_530 ?_
    refine lcM (As := [.int (xs (x4 + 1).toNatClampNeg)]) (rest := []) (k := 1) C0 (c_X12_make l (Eq_ E qm) gm am (xs (x4 + 1).toNatClampNeg) h2) bw808 bw1132 bw778 bw1133 bw1134 hd_X12_make ⟨Nat.le_of_ble_eq_true rfl, Nat.le_of_ble_eq_true rfl⟩ hP (va_D.eqv hD rfl) hS rfl hl.1 rfl (Nat.le_of_ble_eq_true rfl) dL_law_531 ⟨by show _ ≤ 601024; omega, by show _ ≤ 7293033; omega⟩ (fun H locs hP hS => ?_)
    refine lv_istore (lv' := [(6, .int zm.1), (5, .int 2), (0, .ref b), (1, .ref (E.2.1 0)), (2, .ref ((Eq_ E qm).2.1 0)), (3, .ref bo), (4, .int x4)]) hx hb dL_law_534 hl (by decide) rfl (fun ls hl => ?_)
    refine lv_aload_n hx hb dL_law_536 rfl (lv_at hl 4 rfl) ?_
    refine lcM (As := []) (rest := []) (k := 0) C0 (c_X12_thrown l (Eq_ E qm) zm.2.1 zm.2.2) bw770 bw1107 bw778 bw1108 bw1109 hd_X12_thrown ⟨Nat.le_of_ble_eq_true rfl, Nat.le_of_ble_eq_true rfl⟩ hP (va_D.eqv hD rfl) hS rfl hl.1 rfl (Nat.le_of_ble_eq_true rfl) dL_law_537 ⟨by show _ ≤ 601024; omega, by show _ ≤ 7293033; omega⟩ (fun H locs hP hS => ?_)
    refine lv_iload hx hb dL_law_540 (lv_at hl 1 rfl) ?_
    refine lv_icmp_eq (tgt := 547) hx hb dL_law_542 (by decide) (fun _ => ?_) (fun c9 => absurd h3 c9)
    refine lv_iload hx hb dL_law_547 (lv_at hl 1 rfl) ?_
    refine lv_if_ne (tgt := 564) hx hb dL_law_549 (by decide) (fun _ => ?_) (fun c9 => absurd c9 (by decide))
    refine lv_goto (tgt := 1719) hx hb dL_law_564 (by decide) ?_
    refine W.widen (k := CE + 2) (n := SE + 54) (by omega) (by omega) ?_
    exact hk z.2.1 z.2.2 zm.2.1 zm.2.2 fo H locs ls hI9 hP hS (lv_sub hl [2, 3, 4, 5, 6] rfl)
set_option maxRecDepth 100000 in
set_option maxHeartbeats 40000000 in
theorem lc_answers {p : Program} {l : Launch} {e : Env} {s : State} {m : MethodId} {below : List Frame} {meth : Method} {c : Code} {b L : Nat} {xs : Nat → Int32} {E : xE} (C0 : lwC p l s m c b L xs E) {I : xG → xA → xG → xA → Prop} (O : ob_answers I) {g : xG} {a : xA} {gm : xG} {am : xA} (hI : I g a gm am) {i : Nat} {x4 : Int32} (ex4 : x4 = nI i) (hi : i + 5 ≤ L) (hL : L ≤ 2560) {bo : Nat} {fo : Nat → Int64} {qm : Nat → Nat} {H : Heap} {locs : List Loc} {CE SE : Nat} (hCE : CE ≤ 600000) (hSE : SE ≤ 7000000) {Q : State → Prop} (hP : va_P E.1 vwCl (wL E qm g a bo fo gm am) H) (hD : va_D (A0 s) (wL E qm g a bo fo gm am)) (hS : va_S (A0 s) s.heap H locs) {ls : Array Slot} (hl : lv_has ls 8 [(0, .ref b), (1, .ref (E.2.1 0)), (2, .ref ((Eq_ E qm).2.1 0)), (3, .ref bo), (4, .int x4)])
    (hk : ∀ (g : xG) (a : xA) (gm : xG) (am : xA) (fo : Nat → Int64) (H : Heap) (locs : List Loc) (ls : Array Slot), I g a gm am → va_P E.1 vwCl (wL E qm g a bo fo gm am) H → va_S (A0 s) s.heap H locs → lv_has ls 8 [(0, .ref b), (1, .ref (E.2.1 0)), (2, .ref ((Eq_ E qm).2.1 0)), (3, .ref bo), (4, .int x4)] → W p l e room_1 s m #[Value.ref b] below meth c H locs (CE + 2) (SE + 54) Q (F0 m 1719 ls [])) : W p l e room_1 s m #[Value.ref b] below meth c H locs CE SE Q (F0 m 567 ls []) := by
  obtain ⟨hx, hb, hml, hown, hw, hK, hN, hT, hst, hz, hnc, hX, hbl, hstk⟩ := id C0
  have hbA : ¬ (A0 s) b := Nat.not_le.mpr hbl
  have hcs : CE + 1 ≤ room_1.cells ∧ SE + 6 ≤ room_1.slots := ⟨by show _ ≤ 601024; omega, by show _ ≤ 7293033; omega⟩
  refine lv_aload_n hx hb dL_law_567 rfl (lv_at hl 1 rfl) ?_
  refine lv_aload_n hx hb dL_law_568 rfl (lv_at hl 0 rfl) ?_
  refine lv_iload hx hb dL_law_569 (lv_at hl 4 rfl) ?_
  refine lv_iconst (v := 1) hx hb dL_law_571 (by decide) ?_
  refine lv_iadd hx hb dL_law_572 ?_
  refine va_sld hx hb hX hbl hbA hS (law_j ex4 hi hL 1 (by decide)) dL_law_573 ?_
  refine lv_aload_n hx hb dL_law_574 rfl (lv_at hl 0 rfl) ?_
  refine lv_iload hx hb dL_law_575 (lv_at hl 4 rfl) ?_
  refine lv_iconst (v := 2) hx hb dL_law_577 (by decide) ?_
  refine lv_iadd hx hb dL_law_578 ?_
  refine va_sld hx hb hX hbl hbA hS (law_j ex4 hi hL 2 (by decide)) dL_law_579 ?_
  refine lv_aload_n hx hb dL_law_580 rfl (lv_at hl 0 rfl) ?_
  refine lv_iload hx hb dL_law_581 (lv_at hl 4 rfl) ?_
  refine lv_iconst (v := 3) hx hb dL_law_583 (by decide) ?_
  refine lv_iadd hx hb dL_law_584 ?_
  refine va_sld hx hb hX hbl hbA hS (law_j ex4 hi hL 3 (by decide)) dL_law_585 ?_
  refine lv_aload_n hx hb dL_law_586 rfl (lv_at hl 3 rfl) ?_
  rcases O g a gm am (xs (x4 + 1).toNatClampNeg) (xs (x4 + 2).toNatClampNeg) (xs (x4 + 3).toNatClampNeg) hI with ⟨z, zm, h1, h2, h3, h4, hI9⟩ | ⟨z, zm, h1, h5, h2, h3, hI9⟩ | ⟨z, zm, h1, h5, h2, h3, hI9⟩
  · refine lcW (As := [.ref (E.2.1 0), .int (xs (x4 + 1).toNatClampNeg), .int (xs (x4 + 2).toNatClampNeg), .int (xs (x4 + 3).toNatClampNeg), .ref bo]) (rest := []) (k := 5) C0 (c_L_answers_r l hstk E g a (xs (x4 + 1).toNatClampNeg) (xs (x4 + 2).toNatClampNeg) (xs (x4 + 3).toNatClampNeg) bo fo h1) bw1030 bw1135 bw1103 bw1136 hd_L_answers ⟨Nat.le_of_ble_eq_true rfl, Nat.le_of_ble_eq_true rfl⟩ hP (va_D.eqv hD rfl) hS rfl hl.1 rfl (Nat.le_of_ble_eq_true rfl) dL_law_587 ⟨hcs.1, hcs.2⟩ (fun H locs hP hS => ?_)
    refine lv_istore (lv' := [(5, .int 0), (0, .ref b), (1, .ref (E.2.1 0)), (2, .ref ((Eq_ E qm).2.1 0)), (3, .ref bo), (4, .int x4)]) hx hb dL_law_590 hl (by decide) rfl (fun ls hl => ?_)
    refine lv_aload_n hx hb dL_law_592 rfl (lv_at hl 3 rfl) ?_
    refine lv_aload_n hx hb dL_law_593 rfl (lv_at hl 1 rfl) ?_
    refine lv_iload hx hb dL_law_594 (lv_at hl 5 rfl) ?_
    refine lv_iconst (v := 1) hx hb dL_law_596 (by decide) ?_
    refine lv_iadd hx hb dL_law_597 ?_
    refine va_sld hx hb hX hbl hbA hS (law_j ex4 hi hL 1 (by decide)) dL_law_598 ?_
    refine lv_aload_n hx hb dL_law_599 rfl (lv_at hl 1 rfl) ?_
    refine lv_iload hx hb dL_law_600 (lv_at hl 5 rfl) ?_
    refine lv_iconst (v := 2) hx hb dL_law_602 (by decide) ?_
    refine lv_iadd hx hb dL_law_603 ?_
    refine va_sld hx hb hX hbl hbA hS (law_j ex4 hi hL 2 (by decide)) dL_law_604 ?_
    refine lv_aload_n hx hb dL_law_605 rfl (lv_at hl 1 rfl) ?_
    refine lv_iload hx hb dL_law_606 (lv_at hl 5 rfl) ?_
    refine lv_iconst (v := 3) hx hb dL_law_608 (by decide) ?_
    refine lv_iadd hx hb dL_law_609 ?_
    refine va_sld hx hb hX hbl hbA hS (law_j ex4 hi hL 3 (by decide)) dL_law_610 ?_
    refine lcM (As := [.int (xs (x4 + 1).toNatClampNeg), .int (xs (x4 + 2).toNatClampNeg), .int (xs (x4 + 3).toNatClampNeg)]) (rest := []) (k := 3) C0 (c_X12_answers l (Eq_ E qm) gm am (xs (x4 + 1).toNatClampNeg) (xs (x4 + 2).toNatClampNeg) (xs (x4 + 3).toNatClampNeg) h2) bw813 bw1137 bw778 bw1138 bw1139 hd_X12_answers ⟨Nat.le_of_ble_eq_true rfl, Nat.le_of_ble_eq_true rfl⟩ hP (va_D.eqv hD rfl) hS rfl hl.1 rfl (Nat.le_of_ble_eq_true rfl) dL_law_611 ⟨by show _ ≤ 601024; omega, by show _ ≤ 7293033; omega⟩ (fun H locs hP hS => ?_)
    refine lv_istore (lv' := [(6, .int zm.1), (5, .int 0), (0, .ref b), (1, .ref (E.2.1 0)), (2, .ref ((Eq_ E qm).2.1 0)), (3, .ref bo), (4, .int x4)]) hx hb dL_law_614 hl (by decide) rfl (fun ls hl => ?_)
    refine lv_aload_n hx hb dL_law_616 rfl (lv_at hl 4 rfl) ?_
    refine lcM (As := []) (rest := []) (k := 0) C0 (c_X12_thrown l (Eq_ E qm) zm.2.1 zm.2.2) bw770 bw1107 bw778 bw1108 bw1109 hd_X12_thrown ⟨Nat.le_of_ble_eq_true rfl, Nat.le_of_ble_eq_true rfl⟩ hP (va_D.eqv hD rfl) hS rfl hl.1 rfl (Nat.le_of_ble_eq_true rfl) dL_law_617 ⟨by show _ ≤ 601024; omega, by show _ ≤ 7293033; omega⟩ (fun H locs hP hS => ?_)
    refine lv_iload hx hb dL_law_620 (lv_at hl 1 rfl) ?_
    refine lv_icmp_eq (tgt := 627) hx hb dL_law_622 (by decide) (fun _ => ?_) (fun c9 => absurd h3 c9)
    refine lv_iload hx hb dL_law_627 (lv_at hl 1 rfl) ?_
    refine lv_if_ne (tgt := 644) hx hb dL_law_629 (by decide) (fun c9 => absurd rfl c9) (fun _ => ?_)
    refine lv_aload_n hx hb dL_law_632 rfl (lv_at hl 5 rfl) ?_
    refine lv_iconst (v := 0) hx hb dL_law_633 (by decide) ?_
    refine va_lald hx hb hK hP 54 3 go_L rfl (inB_in (by decide)) dL_law_634 ?_
    refine lv_iload hx hb dL_law_635 (lv_at hl 0 rfl) ?_
    refine lv_i2l (v := ((zm.1 : Int32).toInt64)) hx hb dL_law_637 rfl ?_
    refine W.lcmp hx hb dL_law_638 ?_
    refine lv_if_eq (tgt := 644) hx hb dL_law_639 (by decide) (fun _ => ?_) (fun c9 => absurd (lg_self (congrArg Int32.toInt64 h4)) c9)
    refine lv_goto (tgt := 1719) hx hb dL_law_644 (by decide) ?_
    refine W.widen (k := CE + 2) (n := SE + 54) (by omega) (by omega) ?_
    exact hk g z.2 zm.2.1 zm.2.2 (vp_updL fo 0 ((z.1 : Int32).toInt64)) H locs ls hI9 hP hS (lv_sub hl [2, 3, 4, 5, 6] rfl)
  · refine lcW (As := [.ref (E.2.1 0), .int (xs (x4 + 1).toNatClampNeg), .int (xs (x4 + 2).toNatClampNeg), .int (xs (x4 + 3).toNatClampNeg), .ref bo]) (rest := []) (k := 5) C0 (c_L_answers_t3 l hstk E g a (xs (x4 + 1).toNatClampNeg) (xs (x4 + 2).toNatClampNeg) (xs (x4 + 3).toNatClampNeg) bo fo h1 h5) bw1030 bw1135 bw1103 bw1136 hd_L_answers ⟨Nat.le_of_ble_eq_true rfl, Nat.le_of_ble_eq_true rfl⟩ hP (va_D.eqv hD rfl) hS rfl hl.1 rfl (Nat.le_of_ble_eq_true rfl) dL_law_587 ⟨hcs.1, hcs.2⟩ (fun H locs hP hS => ?_)
    refine lv_istore (lv' := [(5, .int 1), (0, .ref b), (1, .ref (E.2.1 0)), (2, .ref ((Eq_ E qm).2.1 0)), (3, .ref bo), (4, .int x4)]) hx hb dL_law_590 hl (by decide) rfl (fun ls hl => ?_)
    refine lv_aload_n hx hb dL_law_592 rfl (lv_at hl 3 rfl) ?_
    refine lv_aload_n hx hb dL_law_593 rfl (lv_at hl 1 rfl) ?_
    refine lv_iload hx hb dL_law_594 (lv_at hl 5 rfl) ?_
    refine lv_iconst (v := 1) hx hb dL_law_596 (by decide) ?_
    refine lv_iadd hx hb dL_law_597 ?_
    refine va_sld hx hb hX hbl hbA hS (law_j ex4 hi hL 1 (by decide)) dL_law_598 ?_
    refine lv_aload_n hx hb dL_law_599 rfl (lv_at hl 1 rfl) ?_
    refine lv_iload hx hb dL_law_600 (lv_at hl 5 rfl) ?_
    refine lv_iconst (v := 2) hx hb dL_law_602 (by decide) ?_
    refine lv_iadd hx hb dL_law_603 ?_
    refine va_sld hx hb hX hbl hbA hS (law_j ex4 hi hL 2 (by decide)) dL_law_604 ?_
    refine lv_aload_n hx hb dL_law_605 rfl (lv_at hl 1 rfl) ?_
    refine lv_iload hx hb dL_law_606 (lv_at hl 5 rfl) ?_
    refine lv_iconst (v := 3) hx hb dL_law_608 (by decide) ?_
    refine lv_iadd hx hb dL_law_609 ?_
    refine va_sld hx hb hX hbl hbA hS (law_j ex4 hi hL 3 (by decide)) dL_law_610 ?_
    refine lcM (As := [.int (xs (x4 + 1).toNatClampNeg), .int (xs (x4 + 2).toNatClampNeg), .int (xs (x4 + 3).toNatClampNeg)]) (rest := []) (k := 3) C0 (c_X12_answers l (Eq_ E qm) gm am (xs (x4 + 1).toNatClampNeg) (xs (x4 + 2).toNatClampNeg) (xs (x4 + 3).toNatClampNeg) h2) bw813 bw1137 bw778 bw1138 bw1139 hd_X12_answers ⟨Nat.le_of_ble_eq_true rfl, Nat.le_of_ble_eq_true rfl⟩ hP (va_D.eqv hD rfl) hS rfl hl.1 rfl (Nat.le_of_ble_eq_true rfl) dL_law_611 ⟨by show _ ≤ 601024; omega, by show _ ≤ 7293033; omega⟩ (fun H locs hP hS => ?_)
    refine lv_istore (lv' := [(6, .int zm.1), (5, .int 1), (0, .ref b), (1, .ref (E.2.1 0)), (2, .ref ((Eq_ E qm).2.1 0)), (3, .ref bo), (4, .int x4)]) hx hb dL_law_614 hl (by decide) rfl (fun ls hl => ?_)
    refine lv_aload_n hx hb dL_law_616 rfl (lv_at hl 4 rfl) ?_
    refine lcM (As := []) (rest := []) (k := 0) C0 (c_X12_thrown l (Eq_ E qm) zm.2.1 zm.2.2) bw770 bw1107 bw778 bw1108 bw1109 hd_X12_thrown ⟨Nat.le_of_ble_eq_true rfl, Nat.le_of_ble_eq_true rfl⟩ hP (va_D.eqv hD rfl) hS rfl hl.1 rfl (Nat.le_of_ble_eq_true rfl) dL_law_617 ⟨by show _ ≤ 601024; omega, by show _ ≤ 7293033; omega⟩ (fun H locs hP hS => ?_)
    refine lv_iload hx hb dL_law_620 (lv_at hl 1 rfl) ?_
    refine lv_icmp_eq (tgt := 627) hx hb dL_law_622 (by decide) (fun _ => ?_) (fun c9 => absurd h3 c9)
    refine lv_iload hx hb dL_law_627 (lv_at hl 1 rfl) ?_
    refine lv_if_ne (tgt := 644) hx hb dL_law_629 (by decide) (fun _ => ?_) (fun c9 => absurd c9 (by decide))
    refine lv_goto (tgt := 1719) hx hb dL_law_644 (by decide) ?_
    refine W.widen (k := CE + 2) (n := SE + 54) (by omega) (by omega) ?_
    exact hk g z.2 zm.2.1 zm.2.2 fo H locs ls hI9 hP hS (lv_sub hl [2, 3, 4, 5, 6] rfl)
  · refine lcW (As := [.ref (E.2.1 0), .int (xs (x4 + 1).toNatClampNeg), .int (xs (x4 + 2).toNatClampNeg), .int (xs (x4 + 3).toNatClampNeg), .ref bo]) (rest := []) (k := 5) C0 (c_L_answers_t1 l hstk E g a (xs (x4 + 1).toNatClampNeg) (xs (x4 + 2).toNatClampNeg) (xs (x4 + 3).toNatClampNeg) bo fo h1 h5) bw1030 bw1135 bw1103 bw1136 hd_L_answers ⟨Nat.le_of_ble_eq_true rfl, Nat.le_of_ble_eq_true rfl⟩ hP (va_D.eqv hD rfl) hS rfl hl.1 rfl (Nat.le_of_ble_eq_true rfl) dL_law_587 ⟨hcs.1, hcs.2⟩ (fun H locs hP hS => ?_)
    refine lv_istore (lv' := [(5, .int 2), (0, .ref b), (1, .ref (E.2.1 0)), (2, .ref ((Eq_ E qm).2.1 0)), (3, .ref bo), (4, .int x4)]) hx hb dL_law_590 hl (by decide) rfl (fun ls hl => ?_)
    refine lv_aload_n hx hb dL_law_592 rfl (lv_at hl 3 rfl) ?_
    refine lv_aload_n hx hb dL_law_593 rfl (lv_at hl 1 rfl) ?_
    refine lv_iload hx hb dL_law_594 (lv_at hl 5 rfl) ?_
    refine lv_iconst (v := 1) hx hb dL_law_596 (by decide) ?_
    refine lv_iadd hx hb dL_law_597 ?_
    refine va_sld hx hb hX hbl hbA hS (law_j ex4 hi hL 1 (by decide)) dL_law_598 ?_
    refine lv_aload_n hx hb dL_law_599 rfl (lv_at hl 1 rfl) ?_
    refine lv_iload hx hb dL_law_600 (lv_at hl 5 rfl) ?_
    refine lv_iconst (v := 2) hx hb dL_law_602 (by decide) ?_
    refine lv_iadd hx hb dL_law_603 ?_
    refine va_sld hx hb hX hbl hbA hS (law_j ex4 hi hL 2 (by decide)) dL_law_604 ?_
    refine lv_aload_n hx hb dL_law_605 rfl (lv_at hl 1 rfl) ?_
    refine lv_iload hx hb dL_law_606 (lv_at hl 5 rfl) ?_
    refine lv_iconst (v := 3) hx hb dL_law_608 (by decide) ?_
    refine lv_iadd hx hb dL_law_609 ?_
    refine va_sld hx hb hX hbl hbA hS (law_j ex4 hi hL 3 (by decide)) dL_law_610 ?_
    refine lcM (As := [.int (xs (x4 + 1).toNatClampNeg), .int (xs (x4 + 2).toNatClampNeg), .int (xs (x4 + 3).toNatClampNeg)]) (rest := []) (k := 3) C0 (c_X12_answers l (Eq_ E qm) gm am (xs (x4 + 1).toNatClampNeg) (xs (x4 + 2).toNatClampNeg) (xs (x4 + 3).toNatClampNeg) h2) bw813 bw1137 bw778 bw1138 bw1139 hd_X12_answers ⟨Nat.le_of_ble_eq_true rfl, Nat.le_of_ble_eq_true rfl⟩ hP (va_D.eqv hD rfl) hS rfl hl.1 rfl (Nat.le_of_ble_eq_true rfl) dL_law_611 ⟨by show _ ≤ 601024; omega, by show _ ≤ 7293033; omega⟩ (fun H locs hP hS => ?_)
    refine lv_istore (lv' := [(6, .int zm.1), (5, .int 2), (0, .ref b), (1, .ref (E.2.1 0)), (2, .ref ((Eq_ E qm).2.1 0)), (3, .ref bo), (4, .int x4)]) hx hb dL_law_614 hl (by decide) rfl (fun ls hl => ?_)
    refine lv_aload_n hx hb dL_law_616 rfl (lv_at hl 4 rfl) ?_
    refine lcM (As := []) (rest := []) (k := 0) C0 (c_X12_thrown l (Eq_ E qm) zm.2.1 zm.2.2) bw770 bw1107 bw778 bw1108 bw1109 hd_X12_thrown ⟨Nat.le_of_ble_eq_true rfl, Nat.le_of_ble_eq_true rfl⟩ hP (va_D.eqv hD rfl) hS rfl hl.1 rfl (Nat.le_of_ble_eq_true rfl) dL_law_617 ⟨by show _ ≤ 601024; omega, by show _ ≤ 7293033; omega⟩ (fun H locs hP hS => ?_)
    refine lv_iload hx hb dL_law_620 (lv_at hl 1 rfl) ?_
    refine lv_icmp_eq (tgt := 627) hx hb dL_law_622 (by decide) (fun _ => ?_) (fun c9 => absurd h3 c9)
    refine lv_iload hx hb dL_law_627 (lv_at hl 1 rfl) ?_
    refine lv_if_ne (tgt := 644) hx hb dL_law_629 (by decide) (fun _ => ?_) (fun c9 => absurd c9 (by decide))
    refine lv_goto (tgt := 1719) hx hb dL_law_644 (by decide) ?_
    refine W.widen (k := CE + 2) (n := SE + 54) (by omega) (by omega) ?_
    exact hk g z.2 zm.2.1 zm.2.2 fo H locs ls hI9 hP hS (lv_sub hl [2, 3, 4, 5, 6] rfl)
set_option maxRecDepth 100000 in
set_option maxHeartbeats 40000000 in
theorem lc_code {p : Program} {l : Launch} {e : Env} {s : State} {m : MethodId} {below : List Frame} {meth : Method} {c : Code} {b L : Nat} {xs : Nat → Int32} {E : xE} (C0 : lwC p l s m c b L xs E) {I : xG → xA → xG → xA → Prop} (O : ob_code I) {g : xG} {a : xA} {gm : xG} {am : xA} (hI : I g a gm am) {i : Nat} {x4 : Int32} (ex4 : x4 = nI i) (hi : i + 5 ≤ L) (hL : L ≤ 2560) {bo : Nat} {fo : Nat → Int64} {qm : Nat → Nat} {H : Heap} {locs : List Loc} {CE SE : Nat} (hCE : CE ≤ 600000) (hSE : SE ≤ 7000000) {Q : State → Prop} (hP : va_P E.1 vwCl (wL E qm g a bo fo gm am) H) (hD : va_D (A0 s) (wL E qm g a bo fo gm am)) (hS : va_S (A0 s) s.heap H locs) {ls : Array Slot} (hl : lv_has ls 8 [(0, .ref b), (1, .ref (E.2.1 0)), (2, .ref ((Eq_ E qm).2.1 0)), (3, .ref bo), (4, .int x4)])
    (hk : ∀ (g : xG) (a : xA) (gm : xG) (am : xA) (fo : Nat → Int64) (H : Heap) (locs : List Loc) (ls : Array Slot), I g a gm am → va_P E.1 vwCl (wL E qm g a bo fo gm am) H → va_S (A0 s) s.heap H locs → lv_has ls 8 [(0, .ref b), (1, .ref (E.2.1 0)), (2, .ref ((Eq_ E qm).2.1 0)), (3, .ref bo), (4, .int x4)] → W p l e room_1 s m #[Value.ref b] below meth c H locs (CE + 2) (SE + 54) Q (F0 m 1719 ls [])) : W p l e room_1 s m #[Value.ref b] below meth c H locs CE SE Q (F0 m 647 ls []) := by
  obtain ⟨hx, hb, hml, hown, hw, hK, hN, hT, hst, hz, hnc, hX, hbl, hstk⟩ := id C0
  have hbA : ¬ (A0 s) b := Nat.not_le.mpr hbl
  have hcs : CE + 1 ≤ room_1.cells ∧ SE + 6 ≤ room_1.slots := ⟨by show _ ≤ 601024; omega, by show _ ≤ 7293033; omega⟩
  refine lv_aload_n hx hb dL_law_647 rfl (lv_at hl 1 rfl) ?_
  refine lv_aload_n hx hb dL_law_648 rfl (lv_at hl 0 rfl) ?_
  refine lv_iload hx hb dL_law_649 (lv_at hl 4 rfl) ?_
  refine lv_iconst (v := 1) hx hb dL_law_651 (by decide) ?_
  refine lv_iadd hx hb dL_law_652 ?_
  refine va_sld hx hb hX hbl hbA hS (law_j ex4 hi hL 1 (by decide)) dL_law_653 ?_
  refine lv_aload_n hx hb dL_law_654 rfl (lv_at hl 3 rfl) ?_
  rcases O g a gm am (xs (x4 + 1).toNatClampNeg) hI with ⟨z, zm, h1, h2, h3, h4, hI9⟩ | ⟨z, zm, h1, h5, h2, h3, hI9⟩
  · refine lcW (As := [.ref (E.2.1 0), .int (xs (x4 + 1).toNatClampNeg), .ref bo]) (rest := []) (k := 3) C0 (c_L_code_r l hstk E g a (xs (x4 + 1).toNatClampNeg) bo fo h1) bw1034 bw1140 bw1103 bw1141 hd_L_code ⟨Nat.le_of_ble_eq_true rfl, Nat.le_of_ble_eq_true rfl⟩ hP (va_D.eqv hD rfl) hS rfl hl.1 rfl (Nat.le_of_ble_eq_true rfl) dL_law_655 ⟨hcs.1, hcs.2⟩ (fun H locs hP hS => ?_)
    refine lv_istore (lv' := [(5, .int 0), (0, .ref b), (1, .ref (E.2.1 0)), (2, .ref ((Eq_ E qm).2.1 0)), (3, .ref bo), (4, .int x4)]) hx hb dL_law_658 hl (by decide) rfl (fun ls hl => ?_)
    refine lv_aload_n hx hb dL_law_660 rfl (lv_at hl 3 rfl) ?_
    refine lv_aload_n hx hb dL_law_661 rfl (lv_at hl 1 rfl) ?_
    refine lv_iload hx hb dL_law_662 (lv_at hl 5 rfl) ?_
    refine lv_iconst (v := 1) hx hb dL_law_664 (by decide) ?_
    refine lv_iadd hx hb dL_law_665 ?_
    refine va_sld hx hb hX hbl hbA hS (law_j ex4 hi hL 1 (by decide)) dL_law_666 ?_
    refine lcMl (As := [.int (xs (x4 + 1).toNatClampNeg)]) (rest := []) (k := 1) C0 (c_X12_code l (Eq_ E qm) gm am (xs (x4 + 1).toNatClampNeg) h2) bw818 bw1142 bw778 bw1143 bw1144 hd_X12_code ⟨Nat.le_of_ble_eq_true rfl, Nat.le_of_ble_eq_true rfl⟩ hP (va_D.eqv hD rfl) hS rfl hl.1 rfl (Nat.le_of_ble_eq_true rfl) dL_law_667 ⟨by show _ ≤ 601024; omega, by show _ ≤ 7293033; omega⟩ (fun H locs hP hS => ?_)
    refine lv_lstore (lv' := [(6, .long zm.1), (5, .int 0), (0, .ref b), (1, .ref (E.2.1 0)), (2, .ref ((Eq_ E qm).2.1 0)), (3, .ref bo), (4, .int x4)]) hx hb dL_law_670 hl (by decide) rfl (fun ls hl => ?_)
    refine lv_aload_n hx hb dL_law_672 rfl (lv_at hl 4 rfl) ?_
    refine lcM (As := []) (rest := []) (k := 0) C0 (c_X12_thrown l (Eq_ E qm) zm.2 am) bw770 bw1107 bw778 bw1108 bw1109 hd_X12_thrown ⟨Nat.le_of_ble_eq_true rfl, Nat.le_of_ble_eq_true rfl⟩ hP (va_D.eqv hD rfl) hS rfl hl.1 rfl (Nat.le_of_ble_eq_true rfl) dL_law_673 ⟨by show _ ≤ 601024; omega, by show _ ≤ 7293033; omega⟩ (fun H locs hP hS => ?_)
    refine lv_iload hx hb dL_law_676 (lv_at hl 1 rfl) ?_
    refine lv_icmp_eq (tgt := 683) hx hb dL_law_678 (by decide) (fun _ => ?_) (fun c9 => absurd h3 c9)
    refine lv_iload hx hb dL_law_683 (lv_at hl 1 rfl) ?_
    refine lv_if_ne (tgt := 699) hx hb dL_law_685 (by decide) (fun c9 => absurd rfl c9) (fun _ => ?_)
    refine lv_aload_n hx hb dL_law_688 rfl (lv_at hl 5 rfl) ?_
    refine lv_iconst (v := 0) hx hb dL_law_689 (by decide) ?_
    refine va_lald hx hb hK hP 54 3 go_L rfl (inB_in (by decide)) dL_law_690 ?_
    refine lv_lload hx hb dL_law_691 (lv_at hl 0 rfl) ?_
    refine W.lcmp hx hb dL_law_693 ?_
    refine lv_if_eq (tgt := 699) hx hb dL_law_694 (by decide) (fun _ => ?_) (fun c9 => absurd (lg_self h4) c9)
    refine lv_goto (tgt := 1719) hx hb dL_law_699 (by decide) ?_
    refine W.widen (k := CE + 2) (n := SE + 54) (by omega) (by omega) ?_
    exact hk g a zm.2 am (vp_updL fo 0 z) H locs ls hI9 hP hS (lv_sub hl [2, 3, 4, 5, 6] rfl)
  · refine lcW (As := [.ref (E.2.1 0), .int (xs (x4 + 1).toNatClampNeg), .ref bo]) (rest := []) (k := 3) C0 (c_L_code_t3 l hstk E g a (xs (x4 + 1).toNatClampNeg) bo fo h1 h5) bw1034 bw1140 bw1103 bw1141 hd_L_code ⟨Nat.le_of_ble_eq_true rfl, Nat.le_of_ble_eq_true rfl⟩ hP (va_D.eqv hD rfl) hS rfl hl.1 rfl (Nat.le_of_ble_eq_true rfl) dL_law_655 ⟨hcs.1, hcs.2⟩ (fun H locs hP hS => ?_)
    refine lv_istore (lv' := [(5, .int 1), (0, .ref b), (1, .ref (E.2.1 0)), (2, .ref ((Eq_ E qm).2.1 0)), (3, .ref bo), (4, .int x4)]) hx hb dL_law_658 hl (by decide) rfl (fun ls hl => ?_)
    refine lv_aload_n hx hb dL_law_660 rfl (lv_at hl 3 rfl) ?_
    refine lv_aload_n hx hb dL_law_661 rfl (lv_at hl 1 rfl) ?_
    refine lv_iload hx hb dL_law_662 (lv_at hl 5 rfl) ?_
    refine lv_iconst (v := 1) hx hb dL_law_664 (by decide) ?_
    refine lv_iadd hx hb dL_law_665 ?_
    refine va_sld hx hb hX hbl hbA hS (law_j ex4 hi hL 1 (by decide)) dL_law_666 ?_
    refine lcMl (As := [.int (xs (x4 + 1).toNatClampNeg)]) (rest := []) (k := 1) C0 (c_X12_code l (Eq_ E qm) gm am (xs (x4 + 1).toNatClampNeg) h2) bw818 bw1142 bw778 bw1143 bw1144 hd_X12_code ⟨Nat.le_of_ble_eq_true rfl, Nat.le_of_ble_eq_true rfl⟩ hP (va_D.eqv hD rfl) hS rfl hl.1 rfl (Nat.le_of_ble_eq_true rfl) dL_law_667 ⟨by show _ ≤ 601024; omega, by show _ ≤ 7293033; omega⟩ (fun H locs hP hS => ?_)
    refine lv_lstore (lv' := [(6, .long zm.1), (5, .int 1), (0, .ref b), (1, .ref (E.2.1 0)), (2, .ref ((Eq_ E qm).2.1 0)), (3, .ref bo), (4, .int x4)]) hx hb dL_law_670 hl (by decide) rfl (fun ls hl => ?_)
    refine lv_aload_n hx hb dL_law_672 rfl (lv_at hl 4 rfl) ?_
    refine lcM (As := []) (rest := []) (k := 0) C0 (c_X12_thrown l (Eq_ E qm) zm.2 am) bw770 bw1107 bw778 bw1108 bw1109 hd_X12_thrown ⟨Nat.le_of_ble_eq_true rfl, Nat.le_of_ble_eq_true rfl⟩ hP (va_D.eqv hD rfl) hS rfl hl.1 rfl (Nat.le_of_ble_eq_true rfl) dL_law_673 ⟨by show _ ≤ 601024; omega, by show _ ≤ 7293033; omega⟩ (fun H locs hP hS => ?_)
    refine lv_iload hx hb dL_law_676 (lv_at hl 1 rfl) ?_
    refine lv_icmp_eq (tgt := 683) hx hb dL_law_678 (by decide) (fun _ => ?_) (fun c9 => absurd h3 c9)
    refine lv_iload hx hb dL_law_683 (lv_at hl 1 rfl) ?_
    refine lv_if_ne (tgt := 699) hx hb dL_law_685 (by decide) (fun _ => ?_) (fun c9 => absurd c9 (by decide))
    refine lv_goto (tgt := 1719) hx hb dL_law_699 (by decide) ?_
    refine W.widen (k := CE + 2) (n := SE + 54) (by omega) (by omega) ?_
    exact hk g a zm.2 am fo H locs ls hI9 hP hS (lv_sub hl [2, 3, 4, 5, 6] rfl)
set_option maxRecDepth 100000 in
set_option maxHeartbeats 40000000 in
theorem lc_keeps {p : Program} {l : Launch} {e : Env} {s : State} {m : MethodId} {below : List Frame} {meth : Method} {c : Code} {b L : Nat} {xs : Nat → Int32} {E : xE} (C0 : lwC p l s m c b L xs E) {I : xG → xA → xG → xA → Prop} (O : ob_keeps I) {g : xG} {a : xA} {gm : xG} {am : xA} (hI : I g a gm am) {i : Nat} {x4 : Int32} (ex4 : x4 = nI i) (hi : i + 5 ≤ L) (hL : L ≤ 2560) {bo : Nat} {fo : Nat → Int64} {qm : Nat → Nat} {H : Heap} {locs : List Loc} {CE SE : Nat} (hCE : CE ≤ 600000) (hSE : SE ≤ 7000000) {Q : State → Prop} (hP : va_P E.1 vwCl (wL E qm g a bo fo gm am) H) (hD : va_D (A0 s) (wL E qm g a bo fo gm am)) (hS : va_S (A0 s) s.heap H locs) {ls : Array Slot} (hl : lv_has ls 8 [(0, .ref b), (1, .ref (E.2.1 0)), (2, .ref ((Eq_ E qm).2.1 0)), (3, .ref bo), (4, .int x4)])
    (hk : ∀ (g : xG) (a : xA) (gm : xG) (am : xA) (fo : Nat → Int64) (H : Heap) (locs : List Loc) (ls : Array Slot), I g a gm am → va_P E.1 vwCl (wL E qm g a bo fo gm am) H → va_S (A0 s) s.heap H locs → lv_has ls 8 [(0, .ref b), (1, .ref (E.2.1 0)), (2, .ref ((Eq_ E qm).2.1 0)), (3, .ref bo), (4, .int x4)] → W p l e room_1 s m #[Value.ref b] below meth c H locs (CE + 2) (SE + 54) Q (F0 m 1719 ls [])) : W p l e room_1 s m #[Value.ref b] below meth c H locs CE SE Q (F0 m 702 ls []) := by
  obtain ⟨hx, hb, hml, hown, hw, hK, hN, hT, hst, hz, hnc, hX, hbl, hstk⟩ := id C0
  have hbA : ¬ (A0 s) b := Nat.not_le.mpr hbl
  have hcs : CE + 1 ≤ room_1.cells ∧ SE + 6 ≤ room_1.slots := ⟨by show _ ≤ 601024; omega, by show _ ≤ 7293033; omega⟩
  refine lv_aload_n hx hb dL_law_702 rfl (lv_at hl 1 rfl) ?_
  refine lv_aload_n hx hb dL_law_703 rfl (lv_at hl 0 rfl) ?_
  refine lv_iload hx hb dL_law_704 (lv_at hl 4 rfl) ?_
  refine lv_iconst (v := 1) hx hb dL_law_706 (by decide) ?_
  refine lv_iadd hx hb dL_law_707 ?_
  refine va_sld hx hb hX hbl hbA hS (law_j ex4 hi hL 1 (by decide)) dL_law_708 ?_
  refine lv_aload_n hx hb dL_law_709 rfl (lv_at hl 0 rfl) ?_
  refine lv_iload hx hb dL_law_710 (lv_at hl 4 rfl) ?_
  refine lv_iconst (v := 2) hx hb dL_law_712 (by decide) ?_
  refine lv_iadd hx hb dL_law_713 ?_
  refine va_sld hx hb hX hbl hbA hS (law_j ex4 hi hL 2 (by decide)) dL_law_714 ?_
  refine lv_aload_n hx hb dL_law_715 rfl (lv_at hl 3 rfl) ?_
  rcases O g a gm am (xs (x4 + 1).toNatClampNeg) (xs (x4 + 2).toNatClampNeg) hI with ⟨z, zm, h1, h2, h3, h4, hI9⟩ | ⟨z, zm, h1, h5, h2, h3, hI9⟩
  · refine lcW (As := [.ref (E.2.1 0), .int (xs (x4 + 1).toNatClampNeg), .int (xs (x4 + 2).toNatClampNeg), .ref bo]) (rest := []) (k := 4) C0 (c_L_keeps_r l hstk E g a (xs (x4 + 1).toNatClampNeg) (xs (x4 + 2).toNatClampNeg) bo fo h1) bw1038 bw1145 bw1103 bw1146 hd_L_keeps ⟨Nat.le_of_ble_eq_true rfl, Nat.le_of_ble_eq_true rfl⟩ hP (va_D.eqv hD rfl) hS rfl hl.1 rfl (Nat.le_of_ble_eq_true rfl) dL_law_716 ⟨hcs.1, hcs.2⟩ (fun H locs hP hS => ?_)
    refine lv_istore (lv' := [(5, .int 0), (0, .ref b), (1, .ref (E.2.1 0)), (2, .ref ((Eq_ E qm).2.1 0)), (3, .ref bo), (4, .int x4)]) hx hb dL_law_719 hl (by decide) rfl (fun ls hl => ?_)
    refine lv_aload_n hx hb dL_law_721 rfl (lv_at hl 3 rfl) ?_
    refine lv_aload_n hx hb dL_law_722 rfl (lv_at hl 1 rfl) ?_
    refine lv_iload hx hb dL_law_723 (lv_at hl 5 rfl) ?_
    refine lv_iconst (v := 1) hx hb dL_law_725 (by decide) ?_
    refine lv_iadd hx hb dL_law_726 ?_
    refine va_sld hx hb hX hbl hbA hS (law_j ex4 hi hL 1 (by decide)) dL_law_727 ?_
    refine lv_aload_n hx hb dL_law_728 rfl (lv_at hl 1 rfl) ?_
    refine lv_iload hx hb dL_law_729 (lv_at hl 5 rfl) ?_
    refine lv_iconst (v := 2) hx hb dL_law_731 (by decide) ?_
    refine lv_iadd hx hb dL_law_732 ?_
    refine va_sld hx hb hX hbl hbA hS (law_j ex4 hi hL 2 (by decide)) dL_law_733 ?_
    refine lcM (As := [.int (xs (x4 + 1).toNatClampNeg), .int (xs (x4 + 2).toNatClampNeg)]) (rest := []) (k := 2) C0 (c_X12_keeps l (Eq_ E qm) gm am (xs (x4 + 1).toNatClampNeg) (xs (x4 + 2).toNatClampNeg) h2) bw846 bw1147 bw778 bw1148 bw1149 hd_X12_keeps ⟨Nat.le_of_ble_eq_true rfl, Nat.le_of_ble_eq_true rfl⟩ hP (va_D.eqv hD rfl) hS rfl hl.1 rfl (Nat.le_of_ble_eq_true rfl) dL_law_734 ⟨by show _ ≤ 601024; omega, by show _ ≤ 7293033; omega⟩ (fun H locs hP hS => ?_)
    refine lv_istore (lv' := [(6, .int zm.1), (5, .int 0), (0, .ref b), (1, .ref (E.2.1 0)), (2, .ref ((Eq_ E qm).2.1 0)), (3, .ref bo), (4, .int x4)]) hx hb dL_law_737 hl (by decide) rfl (fun ls hl => ?_)
    refine lv_aload_n hx hb dL_law_739 rfl (lv_at hl 4 rfl) ?_
    refine lcM (As := []) (rest := []) (k := 0) C0 (c_X12_thrown l (Eq_ E qm) zm.2.1 zm.2.2) bw770 bw1107 bw778 bw1108 bw1109 hd_X12_thrown ⟨Nat.le_of_ble_eq_true rfl, Nat.le_of_ble_eq_true rfl⟩ hP (va_D.eqv hD rfl) hS rfl hl.1 rfl (Nat.le_of_ble_eq_true rfl) dL_law_740 ⟨by show _ ≤ 601024; omega, by show _ ≤ 7293033; omega⟩ (fun H locs hP hS => ?_)
    refine lv_iload hx hb dL_law_743 (lv_at hl 1 rfl) ?_
    refine lv_icmp_eq (tgt := 750) hx hb dL_law_745 (by decide) (fun _ => ?_) (fun c9 => absurd h3 c9)
    refine lv_iload hx hb dL_law_750 (lv_at hl 1 rfl) ?_
    refine lv_if_ne (tgt := 774) hx hb dL_law_752 (by decide) (fun c9 => absurd rfl c9) (fun _ => ?_)
    refine lv_aload_n hx hb dL_law_755 rfl (lv_at hl 5 rfl) ?_
    refine lv_iconst (v := 0) hx hb dL_law_756 (by decide) ?_
    refine va_lald hx hb hK hP 54 3 go_L rfl (inB_in (by decide)) dL_law_757 ?_
    refine lv_iload hx hb dL_law_758 (lv_at hl 0 rfl) ?_
    refine lv_if_eq (tgt := 767) hx hb dL_law_760 (by decide) (fun c1 => ?_) (fun c1 => ?_)
    · refine lv_lconst (v := 0) hx hb dL_law_767 (by decide) ?_
      refine W.lcmp hx hb dL_law_768 ?_
      refine lv_if_eq (tgt := 774) hx hb dL_law_769 (by decide) (fun _ => ?_) (fun c9 => absurd (lg_self (show (if z.1 = 0 then (0 : Int64) else 1) = 0 from by rw [h4, if_pos c1])) c9)
      refine lv_goto (tgt := 1719) hx hb dL_law_774 (by decide) ?_
      refine W.widen (k := CE + 2) (n := SE + 54) (by omega) (by omega) ?_
      exact hk z.2.1 z.2.2 zm.2.1 zm.2.2 (vp_updL fo 0 (if z.1 = 0 then 0 else 1)) H locs ls hI9 hP hS (lv_sub hl [2, 3, 4, 5, 6] rfl)
    · refine lv_lconst (v := 1) hx hb dL_law_763 (by decide) ?_
      refine lv_goto (tgt := 768) hx hb dL_law_764 (by decide) ?_
      refine W.lcmp hx hb dL_law_768 ?_
      refine lv_if_eq (tgt := 774) hx hb dL_law_769 (by decide) (fun _ => ?_) (fun c9 => absurd (lg_self (show (if z.1 = 0 then (0 : Int64) else 1) = 1 from by rw [h4, if_neg c1])) c9)
      refine lv_goto (tgt := 1719) hx hb dL_law_774 (by decide) ?_
      refine W.widen (k := CE + 2) (n := SE + 54) (by omega) (by omega) ?_
      exact hk z.2.1 z.2.2 zm.2.1 zm.2.2 (vp_updL fo 0 (if z.1 = 0 then 0 else 1)) H locs ls hI9 hP hS (lv_sub hl [2, 3, 4, 5, 6] rfl)
  · refine lcW (As := [.ref (E.2.1 0), .int (xs (x4 + 1).toNatClampNeg), .int (xs (x4 + 2).toNatClampNeg), .ref bo]) (rest := []) (k := 4) C0 (c_L_keeps_t3 l hstk E g a (xs (x4 + 1).toNatClampNeg) (xs (x4 + 2).toNatClampNeg) bo fo h1 h5) bw1038 bw1145 bw1103 bw1146 hd_L_keeps ⟨Nat.le_of_ble_eq_true rfl, Nat.le_of_ble_eq_true rfl⟩ hP (va_D.eqv hD rfl) hS rfl hl.1 rfl (Nat.le_of_ble_eq_true rfl) dL_law_716 ⟨hcs.1, hcs.2⟩ (fun H locs hP hS => ?_)
    refine lv_istore (lv' := [(5, .int 1), (0, .ref b), (1, .ref (E.2.1 0)), (2, .ref ((Eq_ E qm).2.1 0)), (3, .ref bo), (4, .int x4)]) hx hb dL_law_719 hl (by decide) rfl (fun ls hl => ?_)
    refine lv_aload_n hx hb dL_law_721 rfl (lv_at hl 3 rfl) ?_
    refine lv_aload_n hx hb dL_law_722 rfl (lv_at hl 1 rfl) ?_
    refine lv_iload hx hb dL_law_723 (lv_at hl 5 rfl) ?_
    refine lv_iconst (v := 1) hx hb dL_law_725 (by decide) ?_
    refine lv_iadd hx hb dL_law_726 ?_
    refine va_sld hx hb hX hbl hbA hS (law_j ex4 hi hL 1 (by decide)) dL_law_727 ?_
    refine lv_aload_n hx hb dL_law_728 rfl (lv_at hl 1 rfl) ?_
    refine lv_iload hx hb dL_law_729 (lv_at hl 5 rfl) ?_
    refine lv_iconst (v := 2) hx hb dL_law_731 (by decide) ?_
    refine lv_iadd hx hb dL_law_732 ?_
    refine va_sld hx hb hX hbl hbA hS (law_j ex4 hi hL 2 (by decide)) dL_law_733 ?_
    refine lcM (As := [.int (xs (x4 + 1).toNatClampNeg), .int (xs (x4 + 2).toNatClampNeg)]) (rest := []) (k := 2) C0 (c_X12_keeps l (Eq_ E qm) gm am (xs (x4 + 1).toNatClampNeg) (xs (x4 + 2).toNatClampNeg) h2) bw846 bw1147 bw778 bw1148 bw1149 hd_X12_keeps ⟨Nat.le_of_ble_eq_true rfl, Nat.le_of_ble_eq_true rfl⟩ hP (va_D.eqv hD rfl) hS rfl hl.1 rfl (Nat.le_of_ble_eq_true rfl) dL_law_734 ⟨by show _ ≤ 601024; omega, by show _ ≤ 7293033; omega⟩ (fun H locs hP hS => ?_)
    refine lv_istore (lv' := [(6, .int zm.1), (5, .int 1), (0, .ref b), (1, .ref (E.2.1 0)), (2, .ref ((Eq_ E qm).2.1 0)), (3, .ref bo), (4, .int x4)]) hx hb dL_law_737 hl (by decide) rfl (fun ls hl => ?_)
    refine lv_aload_n hx hb dL_law_739 rfl (lv_at hl 4 rfl) ?_
    refine lcM (As := []) (rest := []) (k := 0) C0 (c_X12_thrown l (Eq_ E qm) zm.2.1 zm.2.2) bw770 bw1107 bw778 bw1108 bw1109 hd_X12_thrown ⟨Nat.le_of_ble_eq_true rfl, Nat.le_of_ble_eq_true rfl⟩ hP (va_D.eqv hD rfl) hS rfl hl.1 rfl (Nat.le_of_ble_eq_true rfl) dL_law_740 ⟨by show _ ≤ 601024; omega, by show _ ≤ 7293033; omega⟩ (fun H locs hP hS => ?_)
    refine lv_iload hx hb dL_law_743 (lv_at hl 1 rfl) ?_
    refine lv_icmp_eq (tgt := 750) hx hb dL_law_745 (by decide) (fun _ => ?_) (fun c9 => absurd h3 c9)
    refine lv_iload hx hb dL_law_750 (lv_at hl 1 rfl) ?_
    refine lv_if_ne (tgt := 774) hx hb dL_law_752 (by decide) (fun _ => ?_) (fun c9 => absurd c9 (by decide))
    refine lv_goto (tgt := 1719) hx hb dL_law_774 (by decide) ?_
    refine W.widen (k := CE + 2) (n := SE + 54) (by omega) (by omega) ?_
    exact hk z.2.1 z.2.2 zm.2.1 zm.2.2 fo H locs ls hI9 hP hS (lv_sub hl [2, 3, 4, 5, 6] rfl)
set_option maxRecDepth 100000 in
set_option maxHeartbeats 40000000 in
theorem lc_breaks {p : Program} {l : Launch} {e : Env} {s : State} {m : MethodId} {below : List Frame} {meth : Method} {c : Code} {b L : Nat} {xs : Nat → Int32} {E : xE} (C0 : lwC p l s m c b L xs E) {I : xG → xA → xG → xA → Prop} (O : ob_breaks I) {g : xG} {a : xA} {gm : xG} {am : xA} (hI : I g a gm am) {i : Nat} {x4 : Int32} (ex4 : x4 = nI i) (hi : i + 5 ≤ L) (hL : L ≤ 2560) {bo : Nat} {fo : Nat → Int64} {qm : Nat → Nat} {H : Heap} {locs : List Loc} {CE SE : Nat} (hCE : CE ≤ 600000) (hSE : SE ≤ 7000000) {Q : State → Prop} (hP : va_P E.1 vwCl (wL E qm g a bo fo gm am) H) (hD : va_D (A0 s) (wL E qm g a bo fo gm am)) (hS : va_S (A0 s) s.heap H locs) {ls : Array Slot} (hl : lv_has ls 8 [(0, .ref b), (1, .ref (E.2.1 0)), (2, .ref ((Eq_ E qm).2.1 0)), (3, .ref bo), (4, .int x4)])
    (hk : ∀ (g : xG) (a : xA) (gm : xG) (am : xA) (fo : Nat → Int64) (H : Heap) (locs : List Loc) (ls : Array Slot), I g a gm am → va_P E.1 vwCl (wL E qm g a bo fo gm am) H → va_S (A0 s) s.heap H locs → lv_has ls 8 [(0, .ref b), (1, .ref (E.2.1 0)), (2, .ref ((Eq_ E qm).2.1 0)), (3, .ref bo), (4, .int x4)] → W p l e room_1 s m #[Value.ref b] below meth c H locs (CE + 2) (SE + 54) Q (F0 m 1719 ls [])) : W p l e room_1 s m #[Value.ref b] below meth c H locs CE SE Q (F0 m 777 ls []) := by
  obtain ⟨hx, hb, hml, hown, hw, hK, hN, hT, hst, hz, hnc, hX, hbl, hstk⟩ := id C0
  have hbA : ¬ (A0 s) b := Nat.not_le.mpr hbl
  have hcs : CE + 1 ≤ room_1.cells ∧ SE + 6 ≤ room_1.slots := ⟨by show _ ≤ 601024; omega, by show _ ≤ 7293033; omega⟩
  refine lv_aload_n hx hb dL_law_777 rfl (lv_at hl 1 rfl) ?_
  refine lv_aload_n hx hb dL_law_778 rfl (lv_at hl 0 rfl) ?_
  refine lv_iload hx hb dL_law_779 (lv_at hl 4 rfl) ?_
  refine lv_iconst (v := 1) hx hb dL_law_781 (by decide) ?_
  refine lv_iadd hx hb dL_law_782 ?_
  refine va_sld hx hb hX hbl hbA hS (law_j ex4 hi hL 1 (by decide)) dL_law_783 ?_
  refine lv_aload_n hx hb dL_law_784 rfl (lv_at hl 0 rfl) ?_
  refine lv_iload hx hb dL_law_785 (lv_at hl 4 rfl) ?_
  refine lv_iconst (v := 2) hx hb dL_law_787 (by decide) ?_
  refine lv_iadd hx hb dL_law_788 ?_
  refine va_sld hx hb hX hbl hbA hS (law_j ex4 hi hL 2 (by decide)) dL_law_789 ?_
  refine lv_aload_n hx hb dL_law_790 rfl (lv_at hl 3 rfl) ?_
  rcases O g a gm am (xs (x4 + 1).toNatClampNeg) (xs (x4 + 2).toNatClampNeg) hI with ⟨z, zm, h1, h2, h3, h4, hI9⟩ | ⟨z, zm, h1, h5, h2, h3, hI9⟩
  · refine lcW (As := [.ref (E.2.1 0), .int (xs (x4 + 1).toNatClampNeg), .int (xs (x4 + 2).toNatClampNeg), .ref bo]) (rest := []) (k := 4) C0 (c_L_breaks_r l hstk E g a (xs (x4 + 1).toNatClampNeg) (xs (x4 + 2).toNatClampNeg) bo fo h1) bw1042 bw1150 bw1103 bw1151 hd_L_breaks ⟨Nat.le_of_ble_eq_true rfl, Nat.le_of_ble_eq_true rfl⟩ hP (va_D.eqv hD rfl) hS rfl hl.1 rfl (Nat.le_of_ble_eq_true rfl) dL_law_791 ⟨hcs.1, hcs.2⟩ (fun H locs hP hS => ?_)
    refine lv_istore (lv' := [(5, .int 0), (0, .ref b), (1, .ref (E.2.1 0)), (2, .ref ((Eq_ E qm).2.1 0)), (3, .ref bo), (4, .int x4)]) hx hb dL_law_794 hl (by decide) rfl (fun ls hl => ?_)
    refine lv_aload_n hx hb dL_law_796 rfl (lv_at hl 3 rfl) ?_
    refine lv_aload_n hx hb dL_law_797 rfl (lv_at hl 1 rfl) ?_
    refine lv_iload hx hb dL_law_798 (lv_at hl 5 rfl) ?_
    refine lv_iconst (v := 1) hx hb dL_law_800 (by decide) ?_
    refine lv_iadd hx hb dL_law_801 ?_
    refine va_sld hx hb hX hbl hbA hS (law_j ex4 hi hL 1 (by decide)) dL_law_802 ?_
    refine lv_aload_n hx hb dL_law_803 rfl (lv_at hl 1 rfl) ?_
    refine lv_iload hx hb dL_law_804 (lv_at hl 5 rfl) ?_
    refine lv_iconst (v := 2) hx hb dL_law_806 (by decide) ?_
    refine lv_iadd hx hb dL_law_807 ?_
    refine va_sld hx hb hX hbl hbA hS (law_j ex4 hi hL 2 (by decide)) dL_law_808 ?_
    refine lcM (As := [.int (xs (x4 + 1).toNatClampNeg), .int (xs (x4 + 2).toNatClampNeg)]) (rest := []) (k := 2) C0 (c_X12_breaks l (Eq_ E qm) gm am (xs (x4 + 1).toNatClampNeg) (xs (x4 + 2).toNatClampNeg) h2) bw847 bw1152 bw778 bw1153 bw1154 hd_X12_breaks ⟨Nat.le_of_ble_eq_true rfl, Nat.le_of_ble_eq_true rfl⟩ hP (va_D.eqv hD rfl) hS rfl hl.1 rfl (Nat.le_of_ble_eq_true rfl) dL_law_809 ⟨by show _ ≤ 601024; omega, by show _ ≤ 7293033; omega⟩ (fun H locs hP hS => ?_)
    refine lv_istore (lv' := [(6, .int zm.1), (5, .int 0), (0, .ref b), (1, .ref (E.2.1 0)), (2, .ref ((Eq_ E qm).2.1 0)), (3, .ref bo), (4, .int x4)]) hx hb dL_law_812 hl (by decide) rfl (fun ls hl => ?_)
    refine lv_aload_n hx hb dL_law_814 rfl (lv_at hl 4 rfl) ?_
    refine lcM (As := []) (rest := []) (k := 0) C0 (c_X12_thrown l (Eq_ E qm) zm.2.1 zm.2.2) bw770 bw1107 bw778 bw1108 bw1109 hd_X12_thrown ⟨Nat.le_of_ble_eq_true rfl, Nat.le_of_ble_eq_true rfl⟩ hP (va_D.eqv hD rfl) hS rfl hl.1 rfl (Nat.le_of_ble_eq_true rfl) dL_law_815 ⟨by show _ ≤ 601024; omega, by show _ ≤ 7293033; omega⟩ (fun H locs hP hS => ?_)
    refine lv_iload hx hb dL_law_818 (lv_at hl 1 rfl) ?_
    refine lv_icmp_eq (tgt := 825) hx hb dL_law_820 (by decide) (fun _ => ?_) (fun c9 => absurd h3 c9)
    refine lv_iload hx hb dL_law_825 (lv_at hl 1 rfl) ?_
    refine lv_if_ne (tgt := 842) hx hb dL_law_827 (by decide) (fun c9 => absurd rfl c9) (fun _ => ?_)
    refine lv_aload_n hx hb dL_law_830 rfl (lv_at hl 5 rfl) ?_
    refine lv_iconst (v := 0) hx hb dL_law_831 (by decide) ?_
    refine va_lald hx hb hK hP 54 3 go_L rfl (inB_in (by decide)) dL_law_832 ?_
    refine lv_iload hx hb dL_law_833 (lv_at hl 0 rfl) ?_
    refine lv_i2l (v := ((zm.1 : Int32).toInt64)) hx hb dL_law_835 rfl ?_
    refine W.lcmp hx hb dL_law_836 ?_
    refine lv_if_eq (tgt := 842) hx hb dL_law_837 (by decide) (fun _ => ?_) (fun c9 => absurd (lg_self (congrArg Int32.toInt64 h4)) c9)
    refine lv_goto (tgt := 1719) hx hb dL_law_842 (by decide) ?_
    refine W.widen (k := CE + 2) (n := SE + 54) (by omega) (by omega) ?_
    exact hk z.2.1 z.2.2 zm.2.1 zm.2.2 (vp_updL fo 0 ((z.1 : Int32).toInt64)) H locs ls hI9 hP hS (lv_sub hl [2, 3, 4, 5, 6] rfl)
  · refine lcW (As := [.ref (E.2.1 0), .int (xs (x4 + 1).toNatClampNeg), .int (xs (x4 + 2).toNatClampNeg), .ref bo]) (rest := []) (k := 4) C0 (c_L_breaks_t3 l hstk E g a (xs (x4 + 1).toNatClampNeg) (xs (x4 + 2).toNatClampNeg) bo fo h1 h5) bw1042 bw1150 bw1103 bw1151 hd_L_breaks ⟨Nat.le_of_ble_eq_true rfl, Nat.le_of_ble_eq_true rfl⟩ hP (va_D.eqv hD rfl) hS rfl hl.1 rfl (Nat.le_of_ble_eq_true rfl) dL_law_791 ⟨hcs.1, hcs.2⟩ (fun H locs hP hS => ?_)
    refine lv_istore (lv' := [(5, .int 1), (0, .ref b), (1, .ref (E.2.1 0)), (2, .ref ((Eq_ E qm).2.1 0)), (3, .ref bo), (4, .int x4)]) hx hb dL_law_794 hl (by decide) rfl (fun ls hl => ?_)
    refine lv_aload_n hx hb dL_law_796 rfl (lv_at hl 3 rfl) ?_
    refine lv_aload_n hx hb dL_law_797 rfl (lv_at hl 1 rfl) ?_
    refine lv_iload hx hb dL_law_798 (lv_at hl 5 rfl) ?_
    refine lv_iconst (v := 1) hx hb dL_law_800 (by decide) ?_
    refine lv_iadd hx hb dL_law_801 ?_
    refine va_sld hx hb hX hbl hbA hS (law_j ex4 hi hL 1 (by decide)) dL_law_802 ?_
    refine lv_aload_n hx hb dL_law_803 rfl (lv_at hl 1 rfl) ?_
    refine lv_iload hx hb dL_law_804 (lv_at hl 5 rfl) ?_
    refine lv_iconst (v := 2) hx hb dL_law_806 (by decide) ?_
    refine lv_iadd hx hb dL_law_807 ?_
    refine va_sld hx hb hX hbl hbA hS (law_j ex4 hi hL 2 (by decide)) dL_law_808 ?_
    refine lcM (As := [.int (xs (x4 + 1).toNatClampNeg), .int (xs (x4 + 2).toNatClampNeg)]) (rest := []) (k := 2) C0 (c_X12_breaks l (Eq_ E qm) gm am (xs (x4 + 1).toNatClampNeg) (xs (x4 + 2).toNatClampNeg) h2) bw847 bw1152 bw778 bw1153 bw1154 hd_X12_breaks ⟨Nat.le_of_ble_eq_true rfl, Nat.le_of_ble_eq_true rfl⟩ hP (va_D.eqv hD rfl) hS rfl hl.1 rfl (Nat.le_of_ble_eq_true rfl) dL_law_809 ⟨by show _ ≤ 601024; omega, by show _ ≤ 7293033; omega⟩ (fun H locs hP hS => ?_)
    refine lv_istore (lv' := [(6, .int zm.1), (5, .int 1), (0, .ref b), (1, .ref (E.2.1 0)), (2, .ref ((Eq_ E qm).2.1 0)), (3, .ref bo), (4, .int x4)]) hx hb dL_law_812 hl (by decide) rfl (fun ls hl => ?_)
    refine lv_aload_n hx hb dL_law_814 rfl (lv_at hl 4 rfl) ?_
    refine lcM (As := []) (rest := []) (k := 0) C0 (c_X12_thrown l (Eq_ E qm) zm.2.1 zm.2.2) bw770 bw1107 bw778 bw1108 bw1109 hd_X12_thrown ⟨Nat.le_of_ble_eq_true rfl, Nat.le_of_ble_eq_true rfl⟩ hP (va_D.eqv hD rfl) hS rfl hl.1 rfl (Nat.le_of_ble_eq_true rfl) dL_law_815 ⟨by show _ ≤ 601024; omega, by show _ ≤ 7293033; omega⟩ (fun H locs hP hS => ?_)
    refine lv_iload hx hb dL_law_818 (lv_at hl 1 rfl) ?_
    refine lv_icmp_eq (tgt := 825) hx hb dL_law_820 (by decide) (fun _ => ?_) (fun c9 => absurd h3 c9)
    refine lv_iload hx hb dL_law_825 (lv_at hl 1 rfl) ?_
    refine lv_if_ne (tgt := 842) hx hb dL_law_827 (by decide) (fun _ => ?_) (fun c9 => absurd c9 (by decide))
    refine lv_goto (tgt := 1719) hx hb dL_law_842 (by decide) ?_
    refine W.widen (k := CE + 2) (n := SE + 54) (by omega) (by omega) ?_
    exact hk z.2.1 z.2.2 zm.2.1 zm.2.2 fo H locs ls hI9 hP hS (lv_sub hl [2, 3, 4, 5, 6] rfl)
set_option maxRecDepth 100000 in
set_option maxHeartbeats 40000000 in
theorem lc_has {p : Program} {l : Launch} {e : Env} {s : State} {m : MethodId} {below : List Frame} {meth : Method} {c : Code} {b L : Nat} {xs : Nat → Int32} {E : xE} (C0 : lwC p l s m c b L xs E) {I : xG → xA → xG → xA → Prop} (O : ob_has I) {g : xG} {a : xA} {gm : xG} {am : xA} (hI : I g a gm am) {i : Nat} {x4 : Int32} (ex4 : x4 = nI i) (hi : i + 5 ≤ L) (hL : L ≤ 2560) {bo : Nat} {fo : Nat → Int64} {qm : Nat → Nat} {H : Heap} {locs : List Loc} {CE SE : Nat} (hCE : CE ≤ 600000) (hSE : SE ≤ 7000000) {Q : State → Prop} (hP : va_P E.1 vwCl (wL E qm g a bo fo gm am) H) (hD : va_D (A0 s) (wL E qm g a bo fo gm am)) (hS : va_S (A0 s) s.heap H locs) {ls : Array Slot} (hl : lv_has ls 8 [(0, .ref b), (1, .ref (E.2.1 0)), (2, .ref ((Eq_ E qm).2.1 0)), (3, .ref bo), (4, .int x4)])
    (hk : ∀ (g : xG) (a : xA) (gm : xG) (am : xA) (fo : Nat → Int64) (H : Heap) (locs : List Loc) (ls : Array Slot), I g a gm am → va_P E.1 vwCl (wL E qm g a bo fo gm am) H → va_S (A0 s) s.heap H locs → lv_has ls 8 [(0, .ref b), (1, .ref (E.2.1 0)), (2, .ref ((Eq_ E qm).2.1 0)), (3, .ref bo), (4, .int x4)] → W p l e room_1 s m #[Value.ref b] below meth c H locs (CE + 2) (SE + 54) Q (F0 m 1719 ls [])) : W p l e room_1 s m #[Value.ref b] below meth c H locs CE SE Q (F0 m 845 ls []) := by
  obtain ⟨hx, hb, hml, hown, hw, hK, hN, hT, hst, hz, hnc, hX, hbl, hstk⟩ := id C0
  have hbA : ¬ (A0 s) b := Nat.not_le.mpr hbl
  have hcs : CE + 1 ≤ room_1.cells ∧ SE + 6 ≤ room_1.slots := ⟨by show _ ≤ 601024; omega, by show _ ≤ 7293033; omega⟩
  refine lv_aload_n hx hb dL_law_845 rfl (lv_at hl 1 rfl) ?_
  refine lv_aload_n hx hb dL_law_846 rfl (lv_at hl 0 rfl) ?_
  refine lv_iload hx hb dL_law_847 (lv_at hl 4 rfl) ?_
  refine lv_iconst (v := 1) hx hb dL_law_849 (by decide) ?_
  refine lv_iadd hx hb dL_law_850 ?_
  refine va_sld hx hb hX hbl hbA hS (law_j ex4 hi hL 1 (by decide)) dL_law_851 ?_
  refine lv_aload_n hx hb dL_law_852 rfl (lv_at hl 0 rfl) ?_
  refine lv_iload hx hb dL_law_853 (lv_at hl 4 rfl) ?_
  refine lv_iconst (v := 2) hx hb dL_law_855 (by decide) ?_
  refine lv_iadd hx hb dL_law_856 ?_
  refine va_sld hx hb hX hbl hbA hS (law_j ex4 hi hL 2 (by decide)) dL_law_857 ?_
  refine lv_aload_n hx hb dL_law_858 rfl (lv_at hl 3 rfl) ?_
  rcases O g a gm am (xs (x4 + 1).toNatClampNeg) (xs (x4 + 2).toNatClampNeg) hI with ⟨z, zm, h1, h2, h3, h4, hI9⟩ | ⟨z, zm, h1, h5, h2, h3, hI9⟩ | ⟨z, zm, h1, h5, h2, h3, hI9⟩
  · refine lcW (As := [.ref (E.2.1 0), .int (xs (x4 + 1).toNatClampNeg), .int (xs (x4 + 2).toNatClampNeg), .ref bo]) (rest := []) (k := 4) C0 (c_L_has_r l hstk E g a (xs (x4 + 1).toNatClampNeg) (xs (x4 + 2).toNatClampNeg) bo fo h1) bw1046 bw1155 bw1103 bw1156 hd_L_has ⟨Nat.le_of_ble_eq_true rfl, Nat.le_of_ble_eq_true rfl⟩ hP (va_D.eqv hD rfl) hS rfl hl.1 rfl (Nat.le_of_ble_eq_true rfl) dL_law_859 ⟨hcs.1, hcs.2⟩ (fun H locs hP hS => ?_)
    refine lv_istore (lv' := [(5, .int 0), (0, .ref b), (1, .ref (E.2.1 0)), (2, .ref ((Eq_ E qm).2.1 0)), (3, .ref bo), (4, .int x4)]) hx hb dL_law_862 hl (by decide) rfl (fun ls hl => ?_)
    refine lv_aload_n hx hb dL_law_864 rfl (lv_at hl 3 rfl) ?_
    refine lv_aload_n hx hb dL_law_865 rfl (lv_at hl 1 rfl) ?_
    refine lv_iload hx hb dL_law_866 (lv_at hl 5 rfl) ?_
    refine lv_iconst (v := 1) hx hb dL_law_868 (by decide) ?_
    refine lv_iadd hx hb dL_law_869 ?_
    refine va_sld hx hb hX hbl hbA hS (law_j ex4 hi hL 1 (by decide)) dL_law_870 ?_
    refine lv_aload_n hx hb dL_law_871 rfl (lv_at hl 1 rfl) ?_
    refine lv_iload hx hb dL_law_872 (lv_at hl 5 rfl) ?_
    refine lv_iconst (v := 2) hx hb dL_law_874 (by decide) ?_
    refine lv_iadd hx hb dL_law_875 ?_
    refine va_sld hx hb hX hbl hbA hS (law_j ex4 hi hL 2 (by decide)) dL_law_876 ?_
    refine lcM (As := [.int (xs (x4 + 1).toNatClampNeg), .int (xs (x4 + 2).toNatClampNeg)]) (rest := []) (k := 2) C0 (c_X12_has l (Eq_ E qm) gm am (xs (x4 + 1).toNatClampNeg) (xs (x4 + 2).toNatClampNeg) h2) bw872 bw1157 bw778 bw1158 bw1159 hd_X12_has ⟨Nat.le_of_ble_eq_true rfl, Nat.le_of_ble_eq_true rfl⟩ hP (va_D.eqv hD rfl) hS rfl hl.1 rfl (Nat.le_of_ble_eq_true rfl) dL_law_877 ⟨by show _ ≤ 601024; omega, by show _ ≤ 7293033; omega⟩ (fun H locs hP hS => ?_)
    refine lv_istore (lv' := [(6, .int zm.1), (5, .int 0), (0, .ref b), (1, .ref (E.2.1 0)), (2, .ref ((Eq_ E qm).2.1 0)), (3, .ref bo), (4, .int x4)]) hx hb dL_law_880 hl (by decide) rfl (fun ls hl => ?_)
    refine lv_aload_n hx hb dL_law_882 rfl (lv_at hl 4 rfl) ?_
    refine lcM (As := []) (rest := []) (k := 0) C0 (c_X12_thrown l (Eq_ E qm) zm.2 am) bw770 bw1107 bw778 bw1108 bw1109 hd_X12_thrown ⟨Nat.le_of_ble_eq_true rfl, Nat.le_of_ble_eq_true rfl⟩ hP (va_D.eqv hD rfl) hS rfl hl.1 rfl (Nat.le_of_ble_eq_true rfl) dL_law_883 ⟨by show _ ≤ 601024; omega, by show _ ≤ 7293033; omega⟩ (fun H locs hP hS => ?_)
    refine lv_iload hx hb dL_law_886 (lv_at hl 1 rfl) ?_
    refine lv_icmp_eq (tgt := 893) hx hb dL_law_888 (by decide) (fun _ => ?_) (fun c9 => absurd h3 c9)
    refine lv_iload hx hb dL_law_893 (lv_at hl 1 rfl) ?_
    refine lv_if_ne (tgt := 917) hx hb dL_law_895 (by decide) (fun c9 => absurd rfl c9) (fun _ => ?_)
    refine lv_aload_n hx hb dL_law_898 rfl (lv_at hl 5 rfl) ?_
    refine lv_iconst (v := 0) hx hb dL_law_899 (by decide) ?_
    refine va_lald hx hb hK hP 54 3 go_L rfl (inB_in (by decide)) dL_law_900 ?_
    refine lv_iload hx hb dL_law_901 (lv_at hl 0 rfl) ?_
    refine lv_if_eq (tgt := 910) hx hb dL_law_903 (by decide) (fun c1 => ?_) (fun c1 => ?_)
    · refine lv_lconst (v := 0) hx hb dL_law_910 (by decide) ?_
      refine W.lcmp hx hb dL_law_911 ?_
      refine lv_if_eq (tgt := 917) hx hb dL_law_912 (by decide) (fun _ => ?_) (fun c9 => absurd (lg_self (show (if z = 0 then (0 : Int64) else 1) = 0 from by rw [h4, if_pos c1])) c9)
      refine lv_goto (tgt := 1719) hx hb dL_law_917 (by decide) ?_
      refine W.widen (k := CE + 2) (n := SE + 54) (by omega) (by omega) ?_
      exact hk g a zm.2 am (vp_updL fo 0 (if z = 0 then 0 else 1)) H locs ls hI9 hP hS (lv_sub hl [2, 3, 4, 5, 6] rfl)
    · refine lv_lconst (v := 1) hx hb dL_law_906 (by decide) ?_
      refine lv_goto (tgt := 911) hx hb dL_law_907 (by decide) ?_
      refine W.lcmp hx hb dL_law_911 ?_
      refine lv_if_eq (tgt := 917) hx hb dL_law_912 (by decide) (fun _ => ?_) (fun c9 => absurd (lg_self (show (if z = 0 then (0 : Int64) else 1) = 1 from by rw [h4, if_neg c1])) c9)
      refine lv_goto (tgt := 1719) hx hb dL_law_917 (by decide) ?_
      refine W.widen (k := CE + 2) (n := SE + 54) (by omega) (by omega) ?_
      exact hk g a zm.2 am (vp_updL fo 0 (if z = 0 then 0 else 1)) H locs ls hI9 hP hS (lv_sub hl [2, 3, 4, 5, 6] rfl)
  · refine lcW (As := [.ref (E.2.1 0), .int (xs (x4 + 1).toNatClampNeg), .int (xs (x4 + 2).toNatClampNeg), .ref bo]) (rest := []) (k := 4) C0 (c_L_has_t3 l hstk E g a (xs (x4 + 1).toNatClampNeg) (xs (x4 + 2).toNatClampNeg) bo fo h1 h5) bw1046 bw1155 bw1103 bw1156 hd_L_has ⟨Nat.le_of_ble_eq_true rfl, Nat.le_of_ble_eq_true rfl⟩ hP (va_D.eqv hD rfl) hS rfl hl.1 rfl (Nat.le_of_ble_eq_true rfl) dL_law_859 ⟨hcs.1, hcs.2⟩ (fun H locs hP hS => ?_)
    refine lv_istore (lv' := [(5, .int 1), (0, .ref b), (1, .ref (E.2.1 0)), (2, .ref ((Eq_ E qm).2.1 0)), (3, .ref bo), (4, .int x4)]) hx hb dL_law_862 hl (by decide) rfl (fun ls hl => ?_)
    refine lv_aload_n hx hb dL_law_864 rfl (lv_at hl 3 rfl) ?_
    refine lv_aload_n hx hb dL_law_865 rfl (lv_at hl 1 rfl) ?_
    refine lv_iload hx hb dL_law_866 (lv_at hl 5 rfl) ?_
    refine lv_iconst (v := 1) hx hb dL_law_868 (by decide) ?_
    refine lv_iadd hx hb dL_law_869 ?_
    refine va_sld hx hb hX hbl hbA hS (law_j ex4 hi hL 1 (by decide)) dL_law_870 ?_
    refine lv_aload_n hx hb dL_law_871 rfl (lv_at hl 1 rfl) ?_
    refine lv_iload hx hb dL_law_872 (lv_at hl 5 rfl) ?_
    refine lv_iconst (v := 2) hx hb dL_law_874 (by decide) ?_
    refine lv_iadd hx hb dL_law_875 ?_
    refine va_sld hx hb hX hbl hbA hS (law_j ex4 hi hL 2 (by decide)) dL_law_876 ?_
    refine lcM (As := [.int (xs (x4 + 1).toNatClampNeg), .int (xs (x4 + 2).toNatClampNeg)]) (rest := []) (k := 2) C0 (c_X12_has l (Eq_ E qm) gm am (xs (x4 + 1).toNatClampNeg) (xs (x4 + 2).toNatClampNeg) h2) bw872 bw1157 bw778 bw1158 bw1159 hd_X12_has ⟨Nat.le_of_ble_eq_true rfl, Nat.le_of_ble_eq_true rfl⟩ hP (va_D.eqv hD rfl) hS rfl hl.1 rfl (Nat.le_of_ble_eq_true rfl) dL_law_877 ⟨by show _ ≤ 601024; omega, by show _ ≤ 7293033; omega⟩ (fun H locs hP hS => ?_)
    refine lv_istore (lv' := [(6, .int zm.1), (5, .int 1), (0, .ref b), (1, .ref (E.2.1 0)), (2, .ref ((Eq_ E qm).2.1 0)), (3, .ref bo), (4, .int x4)]) hx hb dL_law_880 hl (by decide) rfl (fun ls hl => ?_)
    refine lv_aload_n hx hb dL_law_882 rfl (lv_at hl 4 rfl) ?_
    refine lcM (As := []) (rest := []) (k := 0) C0 (c_X12_thrown l (Eq_ E qm) zm.2 am) bw770 bw1107 bw778 bw1108 bw1109 hd_X12_thrown ⟨Nat.le_of_ble_eq_true rfl, Nat.le_of_ble_eq_true rfl⟩ hP (va_D.eqv hD rfl) hS rfl hl.1 rfl (Nat.le_of_ble_eq_true rfl) dL_law_883 ⟨by show _ ≤ 601024; omega, by show _ ≤ 7293033; omega⟩ (fun H locs hP hS => ?_)
    refine lv_iload hx hb dL_law_886 (lv_at hl 1 rfl) ?_
    refine lv_icmp_eq (tgt := 893) hx hb dL_law_888 (by decide) (fun _ => ?_) (fun c9 => absurd h3 c9)
    refine lv_iload hx hb dL_law_893 (lv_at hl 1 rfl) ?_
    refine lv_if_ne (tgt := 917) hx hb dL_law_895 (by decide) (fun _ => ?_) (fun c9 => absurd c9 (by decide))
    refine lv_goto (tgt := 1719) hx hb dL_law_917 (by decide) ?_
    refine W.widen (k := CE + 2) (n := SE + 54) (by omega) (by omega) ?_
    exact hk g a zm.2 am fo H locs ls hI9 hP hS (lv_sub hl [2, 3, 4, 5, 6] rfl)
  · refine lcW (As := [.ref (E.2.1 0), .int (xs (x4 + 1).toNatClampNeg), .int (xs (x4 + 2).toNatClampNeg), .ref bo]) (rest := []) (k := 4) C0 (c_L_has_t1 l hstk E g a (xs (x4 + 1).toNatClampNeg) (xs (x4 + 2).toNatClampNeg) bo fo h1 h5) bw1046 bw1155 bw1103 bw1156 hd_L_has ⟨Nat.le_of_ble_eq_true rfl, Nat.le_of_ble_eq_true rfl⟩ hP (va_D.eqv hD rfl) hS rfl hl.1 rfl (Nat.le_of_ble_eq_true rfl) dL_law_859 ⟨hcs.1, hcs.2⟩ (fun H locs hP hS => ?_)
    refine lv_istore (lv' := [(5, .int 2), (0, .ref b), (1, .ref (E.2.1 0)), (2, .ref ((Eq_ E qm).2.1 0)), (3, .ref bo), (4, .int x4)]) hx hb dL_law_862 hl (by decide) rfl (fun ls hl => ?_)
    refine lv_aload_n hx hb dL_law_864 rfl (lv_at hl 3 rfl) ?_
    refine lv_aload_n hx hb dL_law_865 rfl (lv_at hl 1 rfl) ?_
    refine lv_iload hx hb dL_law_866 (lv_at hl 5 rfl) ?_
    refine lv_iconst (v := 1) hx hb dL_law_868 (by decide) ?_
    refine lv_iadd hx hb dL_law_869 ?_
    refine va_sld hx hb hX hbl hbA hS (law_j ex4 hi hL 1 (by decide)) dL_law_870 ?_
    refine lv_aload_n hx hb dL_law_871 rfl (lv_at hl 1 rfl) ?_
    refine lv_iload hx hb dL_law_872 (lv_at hl 5 rfl) ?_
    refine lv_iconst (v := 2) hx hb dL_law_874 (by decide) ?_
    refine lv_iadd hx hb dL_law_875 ?_
    refine va_sld hx hb hX hbl hbA hS (law_j ex4 hi hL 2 (by decide)) dL_law_876 ?_
    refine lcM (As := [.int (xs (x4 + 1).toNatClampNeg), .int (xs (x4 + 2).toNatClampNeg)]) (rest := []) (k := 2) C0 (c_X12_has l (Eq_ E qm) gm am (xs (x4 + 1).toNatClampNeg) (xs (x4 + 2).toNatClampNeg) h2) bw872 bw1157 bw778 bw1158 bw1159 hd_X12_has ⟨Nat.le_of_ble_eq_true rfl, Nat.le_of_ble_eq_true rfl⟩ hP (va_D.eqv hD rfl) hS rfl hl.1 rfl (Nat.le_of_ble_eq_true rfl) dL_law_877 ⟨by show _ ≤ 601024; omega, by show _ ≤ 7293033; omega⟩ (fun H locs hP hS => ?_)
    refine lv_istore (lv' := [(6, .int zm.1), (5, .int 2), (0, .ref b), (1, .ref (E.2.1 0)), (2, .ref ((Eq_ E qm).2.1 0)), (3, .ref bo), (4, .int x4)]) hx hb dL_law_880 hl (by decide) rfl (fun ls hl => ?_)
    refine lv_aload_n hx hb dL_law_882 rfl (lv_at hl 4 rfl) ?_
    refine lcM (As := []) (rest := []) (k := 0) C0 (c_X12_thrown l (Eq_ E qm) zm.2 am) bw770 bw1107 bw778 bw1108 bw1109 hd_X12_thrown ⟨Nat.le_of_ble_eq_true rfl, Nat.le_of_ble_eq_true rfl⟩ hP (va_D.eqv hD rfl) hS rfl hl.1 rfl (Nat.le_of_ble_eq_true rfl) dL_law_883 ⟨by show _ ≤ 601024; omega, by show _ ≤ 7293033; omega⟩ (fun H locs hP hS => ?_)
    refine lv_iload hx hb dL_law_886 (lv_at hl 1 rfl) ?_
    refine lv_icmp_eq (tgt := 893) hx hb dL_law_888 (by decide) (fun _ => ?_) (fun c9 => absurd h3 c9)
    refine lv_iload hx hb dL_law_893 (lv_at hl 1 rfl) ?_
    refine lv_if_ne (tgt := 917) hx hb dL_law_895 (by decide) (fun _ => ?_) (fun c9 => absurd c9 (by decide))
    refine lv_goto (tgt := 1719) hx hb dL_law_917 (by decide) ?_
    refine W.widen (k := CE + 2) (n := SE + 54) (by omega) (by omega) ?_
    exact hk g a zm.2 am fo H locs ls hI9 hP hS (lv_sub hl [2, 3, 4, 5, 6] rfl)
set_option maxRecDepth 100000 in
set_option maxHeartbeats 40000000 in
theorem lc_closed {p : Program} {l : Launch} {e : Env} {s : State} {m : MethodId} {below : List Frame} {meth : Method} {c : Code} {b L : Nat} {xs : Nat → Int32} {E : xE} (C0 : lwC p l s m c b L xs E) {I : xG → xA → xG → xA → Prop} (O : ob_closed I) {g : xG} {a : xA} {gm : xG} {am : xA} (hI : I g a gm am) {i : Nat} {x4 : Int32} (ex4 : x4 = nI i) (hi : i + 5 ≤ L) (hL : L ≤ 2560) {bo : Nat} {fo : Nat → Int64} {qm : Nat → Nat} {H : Heap} {locs : List Loc} {CE SE : Nat} (hCE : CE ≤ 600000) (hSE : SE ≤ 7000000) {Q : State → Prop} (hP : va_P E.1 vwCl (wL E qm g a bo fo gm am) H) (hD : va_D (A0 s) (wL E qm g a bo fo gm am)) (hS : va_S (A0 s) s.heap H locs) {ls : Array Slot} (hl : lv_has ls 8 [(0, .ref b), (1, .ref (E.2.1 0)), (2, .ref ((Eq_ E qm).2.1 0)), (3, .ref bo), (4, .int x4)])
    (hk : ∀ (g : xG) (a : xA) (gm : xG) (am : xA) (fo : Nat → Int64) (H : Heap) (locs : List Loc) (ls : Array Slot), I g a gm am → va_P E.1 vwCl (wL E qm g a bo fo gm am) H → va_S (A0 s) s.heap H locs → lv_has ls 8 [(0, .ref b), (1, .ref (E.2.1 0)), (2, .ref ((Eq_ E qm).2.1 0)), (3, .ref bo), (4, .int x4)] → W p l e room_1 s m #[Value.ref b] below meth c H locs (CE + 2) (SE + 54) Q (F0 m 1719 ls [])) : W p l e room_1 s m #[Value.ref b] below meth c H locs CE SE Q (F0 m 920 ls []) := by
  obtain ⟨hx, hb, hml, hown, hw, hK, hN, hT, hst, hz, hnc, hX, hbl, hstk⟩ := id C0
  have hbA : ¬ (A0 s) b := Nat.not_le.mpr hbl
  have hcs : CE + 1 ≤ room_1.cells ∧ SE + 6 ≤ room_1.slots := ⟨by show _ ≤ 601024; omega, by show _ ≤ 7293033; omega⟩
  refine lv_aload_n hx hb dL_law_920 rfl (lv_at hl 1 rfl) ?_
  refine lv_aload_n hx hb dL_law_921 rfl (lv_at hl 0 rfl) ?_
  refine lv_iload hx hb dL_law_922 (lv_at hl 4 rfl) ?_
  refine lv_iconst (v := 1) hx hb dL_law_924 (by decide) ?_
  refine lv_iadd hx hb dL_law_925 ?_
  refine va_sld hx hb hX hbl hbA hS (law_j ex4 hi hL 1 (by decide)) dL_law_926 ?_
  refine lv_aload_n hx hb dL_law_927 rfl (lv_at hl 0 rfl) ?_
  refine lv_iload hx hb dL_law_928 (lv_at hl 4 rfl) ?_
  refine lv_iconst (v := 2) hx hb dL_law_930 (by decide) ?_
  refine lv_iadd hx hb dL_law_931 ?_
  refine va_sld hx hb hX hbl hbA hS (law_j ex4 hi hL 2 (by decide)) dL_law_932 ?_
  refine lv_aload_n hx hb dL_law_933 rfl (lv_at hl 3 rfl) ?_
  rcases O g a gm am (xs (x4 + 1).toNatClampNeg) (xs (x4 + 2).toNatClampNeg) hI with ⟨z, zm, h1, h2, h3, h4, hI9⟩ | ⟨z, zm, h1, h5, h2, h3, hI9⟩
  · refine lcW (As := [.ref (E.2.1 0), .int (xs (x4 + 1).toNatClampNeg), .int (xs (x4 + 2).toNatClampNeg), .ref bo]) (rest := []) (k := 4) C0 (c_L_closed_r l hstk E g a (xs (x4 + 1).toNatClampNeg) (xs (x4 + 2).toNatClampNeg) bo fo h1) bw1050 bw1160 bw1103 bw1161 hd_L_closed ⟨Nat.le_of_ble_eq_true rfl, Nat.le_of_ble_eq_true rfl⟩ hP (va_D.eqv hD rfl) hS rfl hl.1 rfl (Nat.le_of_ble_eq_true rfl) dL_law_934 ⟨hcs.1, hcs.2⟩ (fun H locs hP hS => ?_)
    refine lv_istore (lv' := [(5, .int 0), (0, .ref b), (1, .ref (E.2.1 0)), (2, .ref ((Eq_ E qm).2.1 0)), (3, .ref bo), (4, .int x4)]) hx hb dL_law_937 hl (by decide) rfl (fun ls hl => ?_)
    refine lv_aload_n hx hb dL_law_939 rfl (lv_at hl 3 rfl) ?_
    refine lv_aload_n hx hb dL_law_940 rfl (lv_at hl 1 rfl) ?_
    refine lv_iload hx hb dL_law_941 (lv_at hl 5 rfl) ?_
    refine lv_iconst (v := 1) hx hb dL_law_943 (by decide) ?_
    refine lv_iadd hx hb dL_law_944 ?_
    refine va_sld hx hb hX hbl hbA hS (law_j ex4 hi hL 1 (by decide)) dL_law_945 ?_
    refine lv_aload_n hx hb dL_law_946 rfl (lv_at hl 1 rfl) ?_
    refine lv_iload hx hb dL_law_947 (lv_at hl 5 rfl) ?_
    refine lv_iconst (v := 2) hx hb dL_law_949 (by decide) ?_
    refine lv_iadd hx hb dL_law_950 ?_
    refine va_sld hx hb hX hbl hbA hS (law_j ex4 hi hL 2 (by decide)) dL_law_951 ?_
    refine lcM (As := [.int (xs (x4 + 1).toNatClampNeg), .int (xs (x4 + 2).toNatClampNeg)]) (rest := []) (k := 2) C0 (c_X12_closed l (Eq_ E qm) gm am (xs (x4 + 1).toNatClampNeg) (xs (x4 + 2).toNatClampNeg) h2) bw877 bw1162 bw778 bw1163 bw1164 hd_X12_closed ⟨Nat.le_of_ble_eq_true rfl, Nat.le_of_ble_eq_true rfl⟩ hP (va_D.eqv hD rfl) hS rfl hl.1 rfl (Nat.le_of_ble_eq_true rfl) dL_law_952 ⟨by show _ ≤ 601024; omega, by show _ ≤ 7293033; omega⟩ (fun H locs hP hS => ?_)
    refine lv_istore (lv' := [(6, .int zm.1), (5, .int 0), (0, .ref b), (1, .ref (E.2.1 0)), (2, .ref ((Eq_ E qm).2.1 0)), (3, .ref bo), (4, .int x4)]) hx hb dL_law_955 hl (by decide) rfl (fun ls hl => ?_)
    refine lv_aload_n hx hb dL_law_957 rfl (lv_at hl 4 rfl) ?_
    refine lcM (As := []) (rest := []) (k := 0) C0 (c_X12_thrown l (Eq_ E qm) zm.2.1 zm.2.2) bw770 bw1107 bw778 bw1108 bw1109 hd_X12_thrown ⟨Nat.le_of_ble_eq_true rfl, Nat.le_of_ble_eq_true rfl⟩ hP (va_D.eqv hD rfl) hS rfl hl.1 rfl (Nat.le_of_ble_eq_true rfl) dL_law_958 ⟨by show _ ≤ 601024; omega, by show _ ≤ 7293033; omega⟩ (fun H locs hP hS => ?_)
    refine lv_iload hx hb dL_law_961 (lv_at hl 1 rfl) ?_
    refine lv_icmp_eq (tgt := 968) hx hb dL_law_963 (by decide) (fun _ => ?_) (fun c9 => absurd h3 c9)
    refine lv_iload hx hb dL_law_968 (lv_at hl 1 rfl) ?_
    refine lv_if_ne (tgt := 985) hx hb dL_law_970 (by decide) (fun c9 => absurd rfl c9) (fun _ => ?_)
    refine lv_aload_n hx hb dL_law_973 rfl (lv_at hl 5 rfl) ?_
    refine lv_iconst (v := 0) hx hb dL_law_974 (by decide) ?_
    refine va_lald hx hb hK hP 54 3 go_L rfl (inB_in (by decide)) dL_law_975 ?_
    refine lv_iload hx hb dL_law_976 (lv_at hl 0 rfl) ?_
    refine lv_i2l (v := ((zm.1 : Int32).toInt64)) hx hb dL_law_978 rfl ?_
    refine W.lcmp hx hb dL_law_979 ?_
    refine lv_if_eq (tgt := 985) hx hb dL_law_980 (by decide) (fun _ => ?_) (fun c9 => absurd (lg_self (congrArg Int32.toInt64 h4)) c9)
    refine lv_goto (tgt := 1719) hx hb dL_law_985 (by decide) ?_
    refine W.widen (k := CE + 2) (n := SE + 54) (by omega) (by omega) ?_
    exact hk z.2.1 z.2.2 zm.2.1 zm.2.2 (vp_updL fo 0 ((z.1 : Int32).toInt64)) H locs ls hI9 hP hS (lv_sub hl [2, 3, 4, 5, 6] rfl)
  · refine lcW (As := [.ref (E.2.1 0), .int (xs (x4 + 1).toNatClampNeg), .int (xs (x4 + 2).toNatClampNeg), .ref bo]) (rest := []) (k := 4) C0 (c_L_closed_t3 l hstk E g a (xs (x4 + 1).toNatClampNeg) (xs (x4 + 2).toNatClampNeg) bo fo h1 h5) bw1050 bw1160 bw1103 bw1161 hd_L_closed ⟨Nat.le_of_ble_eq_true rfl, Nat.le_of_ble_eq_true rfl⟩ hP (va_D.eqv hD rfl) hS rfl hl.1 rfl (Nat.le_of_ble_eq_true rfl) dL_law_934 ⟨hcs.1, hcs.2⟩ (fun H locs hP hS => ?_)
    refine lv_istore (lv' := [(5, .int 1), (0, .ref b), (1, .ref (E.2.1 0)), (2, .ref ((Eq_ E qm).2.1 0)), (3, .ref bo), (4, .int x4)]) hx hb dL_law_937 hl (by decide) rfl (fun ls hl => ?_)
    refine lv_aload_n hx hb dL_law_939 rfl (lv_at hl 3 rfl) ?_
    refine lv_aload_n hx hb dL_law_940 rfl (lv_at hl 1 rfl) ?_
    refine lv_iload hx hb dL_law_941 (lv_at hl 5 rfl) ?_
    refine lv_iconst (v := 1) hx hb dL_law_943 (by decide) ?_
    refine lv_iadd hx hb dL_law_944 ?_
    refine va_sld hx hb hX hbl hbA hS (law_j ex4 hi hL 1 (by decide)) dL_law_945 ?_
    refine lv_aload_n hx hb dL_law_946 rfl (lv_at hl 1 rfl) ?_
    refine lv_iload hx hb dL_law_947 (lv_at hl 5 rfl) ?_
    refine lv_iconst (v := 2) hx hb dL_law_949 (by decide) ?_
    refine lv_iadd hx hb dL_law_950 ?_
    refine va_sld hx hb hX hbl hbA hS (law_j ex4 hi hL 2 (by decide)) dL_law_951 ?_
    refine lcM (As := [.int (xs (x4 + 1).toNatClampNeg), .int (xs (x4 + 2).toNatClampNeg)]) (rest := []) (k := 2) C0 (c_X12_closed l (Eq_ E qm) gm am (xs (x4 + 1).toNatClampNeg) (xs (x4 + 2).toNatClampNeg) h2) bw877 bw1162 bw778 bw1163 bw1164 hd_X12_closed ⟨Nat.le_of_ble_eq_true rfl, Nat.le_of_ble_eq_true rfl⟩ hP (va_D.eqv hD rfl) hS rfl hl.1 rfl (Nat.le_of_ble_eq_true rfl) dL_law_952 ⟨by show _ ≤ 601024; omega, by show _ ≤ 7293033; omega⟩ (fun H locs hP hS => ?_)
    refine lv_istore (lv' := [(6, .int zm.1), (5, .int 1), (0, .ref b), (1, .ref (E.2.1 0)), (2, .ref ((Eq_ E qm).2.1 0)), (3, .ref bo), (4, .int x4)]) hx hb dL_law_955 hl (by decide) rfl (fun ls hl => ?_)
    refine lv_aload_n hx hb dL_law_957 rfl (lv_at hl 4 rfl) ?_
    refine lcM (As := []) (rest := []) (k := 0) C0 (c_X12_thrown l (Eq_ E qm) zm.2.1 zm.2.2) bw770 bw1107 bw778 bw1108 bw1109 hd_X12_thrown ⟨Nat.le_of_ble_eq_true rfl, Nat.le_of_ble_eq_true rfl⟩ hP (va_D.eqv hD rfl) hS rfl hl.1 rfl (Nat.le_of_ble_eq_true rfl) dL_law_958 ⟨by show _ ≤ 601024; omega, by show _ ≤ 7293033; omega⟩ (fun H locs hP hS => ?_)
    refine lv_iload hx hb dL_law_961 (lv_at hl 1 rfl) ?_
    refine lv_icmp_eq (tgt := 968) hx hb dL_law_963 (by decide) (fun _ => ?_) (fun c9 => absurd h3 c9)
    refine lv_iload hx hb dL_law_968 (lv_at hl 1 rfl) ?_
    refine lv_if_ne (tgt := 985) hx hb dL_law_970 (by decide) (fun _ => ?_) (fun c9 => absurd c9 (by decide))
    refine lv_goto (tgt := 1719) hx hb dL_law_985 (by decide) ?_
    refine W.widen (k := CE + 2) (n := SE + 54) (by omega) (by omega) ?_
    exact hk z.2.1 z.2.2 zm.2.1 zm.2.2 fo H locs ls hI9 hP hS (lv_sub hl [2, 3, 4, 5, 6] rfl)
set_option maxRecDepth 100000 in
set_option maxHeartbeats 40000000 in
theorem lc_monoid {p : Program} {l : Launch} {e : Env} {s : State} {m : MethodId} {below : List Frame} {meth : Method} {c : Code} {b L : Nat} {xs : Nat → Int32} {E : xE} (C0 : lwC p l s m c b L xs E) {I : xG → xA → xG → xA → Prop} (O : ob_monoid I) {g : xG} {a : xA} {gm : xG} {am : xA} (hI : I g a gm am) {i : Nat} {x4 : Int32} (ex4 : x4 = nI i) (hi : i + 5 ≤ L) (hL : L ≤ 2560) {bo : Nat} {fo : Nat → Int64} {qm : Nat → Nat} {H : Heap} {locs : List Loc} {CE SE : Nat} (hCE : CE ≤ 600000) (hSE : SE ≤ 7000000) {Q : State → Prop} (hP : va_P E.1 vwCl (wL E qm g a bo fo gm am) H) (hD : va_D (A0 s) (wL E qm g a bo fo gm am)) (hS : va_S (A0 s) s.heap H locs) {ls : Array Slot} (hl : lv_has ls 8 [(0, .ref b), (1, .ref (E.2.1 0)), (2, .ref ((Eq_ E qm).2.1 0)), (3, .ref bo), (4, .int x4)])
    (hk : ∀ (g : xG) (a : xA) (gm : xG) (am : xA) (fo : Nat → Int64) (H : Heap) (locs : List Loc) (ls : Array Slot), I g a gm am → va_P E.1 vwCl (wL E qm g a bo fo gm am) H → va_S (A0 s) s.heap H locs → lv_has ls 8 [(0, .ref b), (1, .ref (E.2.1 0)), (2, .ref ((Eq_ E qm).2.1 0)), (3, .ref bo), (4, .int x4)] → W p l e room_1 s m #[Value.ref b] below meth c H locs (CE + 2) (SE + 54) Q (F0 m 1719 ls [])) : W p l e room_1 s m #[Value.ref b] below meth c H locs CE SE Q (F0 m 988 ls []) := by
  obtain ⟨hx, hb, hml, hown, hw, hK, hN, hT, hst, hz, hnc, hX, hbl, hstk⟩ := id C0
  have hbA : ¬ (A0 s) b := Nat.not_le.mpr hbl
  have hcs : CE + 1 ≤ room_1.cells ∧ SE + 6 ≤ room_1.slots := ⟨by show _ ≤ 601024; omega, by show _ ≤ 7293033; omega⟩
  refine lv_aload_n hx hb dL_law_988 rfl (lv_at hl 1 rfl) ?_
  obtain ⟨z, zm, h1, h2, h4, hI9⟩ := O g a gm am hI
  refine lcX (As := []) (rest := []) (k := 0) C0 (c_X11_monoid l E g a h1) bw667 bw1165 bw13 bw1166 bw1167 hd_X11_monoid ⟨Nat.le_of_ble_eq_true rfl, Nat.le_of_ble_eq_true rfl⟩ hP (va_D.eqv hD rfl) hS rfl hl.1 rfl (Nat.le_of_ble_eq_true rfl) dL_law_989 ⟨by show _ ≤ 601024; omega, by show _ ≤ 7293033; omega⟩ (fun H locs hP hS => ?_)
  refine lv_aload_n hx hb dL_law_992 rfl (lv_at hl 2 rfl) ?_
  refine lcM (As := []) (rest := [.int z.1]) (k := 0) C0 (c_X12_monoid l (Eq_ E qm) gm am h2) bw878 bw1168 bw778 bw1169 bw1170 hd_X12_monoid ⟨Nat.le_of_ble_eq_true rfl, Nat.le_of_ble_eq_true rfl⟩ hP (va_D.eqv hD rfl) hS rfl hl.1 rfl (Nat.le_of_ble_eq_true rfl) dL_law_993 ⟨by show _ ≤ 601024; omega, by show _ ≤ 7293033; omega⟩ (fun H locs hP hS => ?_)
  refine lv_icmp_eq (tgt := 1719) hx hb dL_law_996 (by decide) (fun _ => ?_) (fun c9 => absurd h4 c9)
  refine W.widen (k := CE + 2) (n := SE + 54) (by omega) (by omega) ?_
  exact hk z.2.1 z.2.2 (upd gm 8 0) zm.2 fo H locs ls hI9 hP hS (lv_sub hl [0, 1, 2, 3, 4] rfl)
set_option maxRecDepth 100000 in
set_option maxHeartbeats 40000000 in
theorem lc_binary {p : Program} {l : Launch} {e : Env} {s : State} {m : MethodId} {below : List Frame} {meth : Method} {c : Code} {b L : Nat} {xs : Nat → Int32} {E : xE} (C0 : lwC p l s m c b L xs E) {I : xG → xA → xG → xA → Prop} (O : ob_binary I) {g : xG} {a : xA} {gm : xG} {am : xA} (hI : I g a gm am) {i : Nat} {x4 : Int32} (ex4 : x4 = nI i) (hi : i + 5 ≤ L) (hL : L ≤ 2560) {bo : Nat} {fo : Nat → Int64} {qm : Nat → Nat} {H : Heap} {locs : List Loc} {CE SE : Nat} (hCE : CE ≤ 600000) (hSE : SE ≤ 7000000) {Q : State → Prop} (hP : va_P E.1 vwCl (wL E qm g a bo fo gm am) H) (hD : va_D (A0 s) (wL E qm g a bo fo gm am)) (hS : va_S (A0 s) s.heap H locs) {ls : Array Slot} (hl : lv_has ls 8 [(0, .ref b), (1, .ref (E.2.1 0)), (2, .ref ((Eq_ E qm).2.1 0)), (3, .ref bo), (4, .int x4)])
    (hk : ∀ (g : xG) (a : xA) (gm : xG) (am : xA) (fo : Nat → Int64) (H : Heap) (locs : List Loc) (ls : Array Slot), I g a gm am → va_P E.1 vwCl (wL E qm g a bo fo gm am) H → va_S (A0 s) s.heap H locs → lv_has ls 8 [(0, .ref b), (1, .ref (E.2.1 0)), (2, .ref ((Eq_ E qm).2.1 0)), (3, .ref bo), (4, .int x4)] → W p l e room_1 s m #[Value.ref b] below meth c H locs (CE + 2) (SE + 54) Q (F0 m 1719 ls [])) : W p l e room_1 s m #[Value.ref b] below meth c H locs CE SE Q (F0 m 1001 ls []) := by
  obtain ⟨hx, hb, hml, hown, hw, hK, hN, hT, hst, hz, hnc, hX, hbl, hstk⟩ := id C0
  have hbA : ¬ (A0 s) b := Nat.not_le.mpr hbl
  have hcs : CE + 1 ≤ room_1.cells ∧ SE + 6 ≤ room_1.slots := ⟨by show _ ≤ 601024; omega, by show _ ≤ 7293033; omega⟩
  refine lv_aload_n hx hb dL_law_1001 rfl (lv_at hl 1 rfl) ?_
  refine lv_aload_n hx hb dL_law_1002 rfl (lv_at hl 3 rfl) ?_
  rcases O g a gm am hI with ⟨z, zm, h1, h2, h3, h4, hI9⟩ | ⟨z, zm, h1, h5, h2, h3, hI9⟩
  · refine lcW (As := [.ref (E.2.1 0), .ref bo]) (rest := []) (k := 2) C0 (c_L_binary_r l hstk E g a bo fo h1) bw1054 bw1171 bw1103 bw1172 hd_L_binary ⟨Nat.le_of_ble_eq_true rfl, Nat.le_of_ble_eq_true rfl⟩ hP (va_D.eqv hD rfl) hS rfl hl.1 rfl (Nat.le_of_ble_eq_true rfl) dL_law_1003 ⟨hcs.1, hcs.2⟩ (fun H locs hP hS => ?_)
    refine lv_istore (lv' := [(5, .int 0), (0, .ref b), (1, .ref (E.2.1 0)), (2, .ref ((Eq_ E qm).2.1 0)), (3, .ref bo), (4, .int x4)]) hx hb dL_law_1006 hl (by decide) rfl (fun ls hl => ?_)
    refine lv_aload_n hx hb dL_law_1008 rfl (lv_at hl 3 rfl) ?_
    refine lcM (As := []) (rest := []) (k := 0) C0 (c_X12_binary l (Eq_ E qm) gm am h2) bw880 bw1173 bw778 bw1174 bw1175 hd_X12_binary ⟨Nat.le_of_ble_eq_true rfl, Nat.le_of_ble_eq_true rfl⟩ hP (va_D.eqv hD rfl) hS rfl hl.1 rfl (Nat.le_of_ble_eq_true rfl) dL_law_1009 ⟨by show _ ≤ 601024; omega, by show _ ≤ 7293033; omega⟩ (fun H locs hP hS => ?_)
    refine lv_istore (lv' := [(6, .int zm.1), (5, .int 0), (0, .ref b), (1, .ref (E.2.1 0)), (2, .ref ((Eq_ E qm).2.1 0)), (3, .ref bo), (4, .int x4)]) hx hb dL_law_1012 hl (by decide) rfl (fun ls hl => ?_)
    refine lv_aload_n hx hb dL_law_1014 rfl (lv_at hl 4 rfl) ?_
    refine lcM (As := []) (rest := []) (k := 0) C0 (c_X12_thrown l (Eq_ E qm) zm.2.1 zm.2.2) bw770 bw1107 bw778 bw1108 bw1109 hd_X12_thrown ⟨Nat.le_of_ble_eq_true rfl, Nat.le_of_ble_eq_true rfl⟩ hP (va_D.eqv hD rfl) hS rfl hl.1 rfl (Nat.le_of_ble_eq_true rfl) dL_law_1015 ⟨by show _ ≤ 601024; omega, by show _ ≤ 7293033; omega⟩ (fun H locs hP hS => ?_)
    refine lv_iload hx hb dL_law_1018 (lv_at hl 1 rfl) ?_
    refine lv_icmp_eq (tgt := 1025) hx hb dL_law_1020 (by decide) (fun _ => ?_) (fun c9 => absurd h3 c9)
    refine lv_iload hx hb dL_law_1025 (lv_at hl 1 rfl) ?_
    refine lv_if_ne (tgt := 1042) hx hb dL_law_1027 (by decide) (fun c9 => absurd rfl c9) (fun _ => ?_)
    refine lv_aload_n hx hb dL_law_1030 rfl (lv_at hl 5 rfl) ?_
    refine lv_iconst (v := 0) hx hb dL_law_1031 (by decide) ?_
    refine va_lald hx hb hK hP 54 3 go_L rfl (inB_in (by decide)) dL_law_1032 ?_
    refine lv_iload hx hb dL_law_1033 (lv_at hl 0 rfl) ?_
    refine lv_i2l (v := ((zm.1 : Int32).toInt64)) hx hb dL_law_1035 rfl ?_
    refine W.lcmp hx hb dL_law_1036 ?_
    refine lv_if_eq (tgt := 1042) hx hb dL_law_1037 (by decide) (fun _ => ?_) (fun c9 => absurd (lg_self (congrArg Int32.toInt64 h4)) c9)
    refine lv_goto (tgt := 1719) hx hb dL_law_1042 (by decide) ?_
    refine W.widen (k := CE + 2) (n := SE + 54) (by omega) (by omega) ?_
    exact hk z.2.1 z.2.2 zm.2.1 zm.2.2 (vp_updL fo 0 ((z.1 : Int32).toInt64)) H locs ls hI9 hP hS (lv_sub hl [2, 3, 4, 5, 6] rfl)
  · refine lcW (As := [.ref (E.2.1 0), .ref bo]) (rest := []) (k := 2) C0 (c_L_binary_t2 l hstk E g a bo fo h1 h5) bw1054 bw1171 bw1103 bw1172 hd_L_binary ⟨Nat.le_of_ble_eq_true rfl, Nat.le_of_ble_eq_true rfl⟩ hP (va_D.eqv hD rfl) hS rfl hl.1 rfl (Nat.le_of_ble_eq_true rfl) dL_law_1003 ⟨hcs.1, hcs.2⟩ (fun H locs hP hS => ?_)
    refine lv_istore (lv' := [(5, .int 1), (0, .ref b), (1, .ref (E.2.1 0)), (2, .ref ((Eq_ E qm).2.1 0)), (3, .ref bo), (4, .int x4)]) hx hb dL_law_1006 hl (by decide) rfl (fun ls hl => ?_)
    refine lv_aload_n hx hb dL_law_1008 rfl (lv_at hl 3 rfl) ?_
    refine lcM (As := []) (rest := []) (k := 0) C0 (c_X12_binary l (Eq_ E qm) gm am h2) bw880 bw1173 bw778 bw1174 bw1175 hd_X12_binary ⟨Nat.le_of_ble_eq_true rfl, Nat.le_of_ble_eq_true rfl⟩ hP (va_D.eqv hD rfl) hS rfl hl.1 rfl (Nat.le_of_ble_eq_true rfl) dL_law_1009 ⟨by show _ ≤ 601024; omega, by show _ ≤ 7293033; omega⟩ (fun H locs hP hS => ?_)
    refine lv_istore (lv' := [(6, .int zm.1), (5, .int 1), (0, .ref b), (1, .ref (E.2.1 0)), (2, .ref ((Eq_ E qm).2.1 0)), (3, .ref bo), (4, .int x4)]) hx hb dL_law_1012 hl (by decide) rfl (fun ls hl => ?_)
    refine lv_aload_n hx hb dL_law_1014 rfl (lv_at hl 4 rfl) ?_
    refine lcM (As := []) (rest := []) (k := 0) C0 (c_X12_thrown l (Eq_ E qm) zm.2.1 zm.2.2) bw770 bw1107 bw778 bw1108 bw1109 hd_X12_thrown ⟨Nat.le_of_ble_eq_true rfl, Nat.le_of_ble_eq_true rfl⟩ hP (va_D.eqv hD rfl) hS rfl hl.1 rfl (Nat.le_of_ble_eq_true rfl) dL_law_1015 ⟨by show _ ≤ 601024; omega, by show _ ≤ 7293033; omega⟩ (fun H locs hP hS => ?_)
    refine lv_iload hx hb dL_law_1018 (lv_at hl 1 rfl) ?_
    refine lv_icmp_eq (tgt := 1025) hx hb dL_law_1020 (by decide) (fun _ => ?_) (fun c9 => absurd h3 c9)
    refine lv_iload hx hb dL_law_1025 (lv_at hl 1 rfl) ?_
    refine lv_if_ne (tgt := 1042) hx hb dL_law_1027 (by decide) (fun _ => ?_) (fun c9 => absurd c9 (by decide))
    refine lv_goto (tgt := 1719) hx hb dL_law_1042 (by decide) ?_
    refine W.widen (k := CE + 2) (n := SE + 54) (by omega) (by omega) ?_
    exact hk z.2.1 z.2.2 zm.2.1 zm.2.2 fo H locs ls hI9 hP hS (lv_sub hl [2, 3, 4, 5, 6] rfl)
set_option maxRecDepth 100000 in
set_option maxHeartbeats 40000000 in
theorem lc_kept {p : Program} {l : Launch} {e : Env} {s : State} {m : MethodId} {below : List Frame} {meth : Method} {c : Code} {b L : Nat} {xs : Nat → Int32} {E : xE} (C0 : lwC p l s m c b L xs E) {I : xG → xA → xG → xA → Prop} (O : ob_kept I) {g : xG} {a : xA} {gm : xG} {am : xA} (hI : I g a gm am) {i : Nat} {x4 : Int32} (ex4 : x4 = nI i) (hi : i + 5 ≤ L) (hL : L ≤ 2560) {bo : Nat} {fo : Nat → Int64} {qm : Nat → Nat} {H : Heap} {locs : List Loc} {CE SE : Nat} (hCE : CE ≤ 600000) (hSE : SE ≤ 7000000) {Q : State → Prop} (hP : va_P E.1 vwCl (wL E qm g a bo fo gm am) H) (hD : va_D (A0 s) (wL E qm g a bo fo gm am)) (hS : va_S (A0 s) s.heap H locs) {ls : Array Slot} (hl : lv_has ls 8 [(0, .ref b), (1, .ref (E.2.1 0)), (2, .ref ((Eq_ E qm).2.1 0)), (3, .ref bo), (4, .int x4)])
    (hk : ∀ (g : xG) (a : xA) (gm : xG) (am : xA) (fo : Nat → Int64) (H : Heap) (locs : List Loc) (ls : Array Slot), I g a gm am → va_P E.1 vwCl (wL E qm g a bo fo gm am) H → va_S (A0 s) s.heap H locs → lv_has ls 8 [(0, .ref b), (1, .ref (E.2.1 0)), (2, .ref ((Eq_ E qm).2.1 0)), (3, .ref bo), (4, .int x4)] → W p l e room_1 s m #[Value.ref b] below meth c H locs (CE + 2) (SE + 54) Q (F0 m 1719 ls [])) : W p l e room_1 s m #[Value.ref b] below meth c H locs CE SE Q (F0 m 1045 ls []) := by
  obtain ⟨hx, hb, hml, hown, hw, hK, hN, hT, hst, hz, hnc, hX, hbl, hstk⟩ := id C0
  have hbA : ¬ (A0 s) b := Nat.not_le.mpr hbl
  have hcs : CE + 1 ≤ room_1.cells ∧ SE + 6 ≤ room_1.slots := ⟨by show _ ≤ 601024; omega, by show _ ≤ 7293033; omega⟩
  refine lv_aload_n hx hb dL_law_1045 rfl (lv_at hl 1 rfl) ?_
  refine lv_aload_n hx hb dL_law_1046 rfl (lv_at hl 0 rfl) ?_
  refine lv_iload hx hb dL_law_1047 (lv_at hl 4 rfl) ?_
  refine lv_iconst (v := 1) hx hb dL_law_1049 (by decide) ?_
  refine lv_iadd hx hb dL_law_1050 ?_
  refine va_sld hx hb hX hbl hbA hS (law_j ex4 hi hL 1 (by decide)) dL_law_1051 ?_
  refine lv_aload_n hx hb dL_law_1052 rfl (lv_at hl 3 rfl) ?_
  rcases O g a gm am (xs (x4 + 1).toNatClampNeg) hI with ⟨z, zm, h1, h2, h3, h4, hI9⟩ | ⟨z, zm, h1, h5, h2, h3, hI9⟩
  · refine lcW (As := [.ref (E.2.1 0), .int (xs (x4 + 1).toNatClampNeg), .ref bo]) (rest := []) (k := 3) C0 (c_L_kept_r l hstk E g a (xs (x4 + 1).toNatClampNeg) bo fo h1) bw1058 bw1176 bw1103 bw1177 hd_L_kept ⟨Nat.le_of_ble_eq_true rfl, Nat.le_of_ble_eq_true rfl⟩ hP (va_D.eqv hD rfl) hS rfl hl.1 rfl (Nat.le_of_ble_eq_true rfl) dL_law_1053 ⟨hcs.1, hcs.2⟩ (fun H locs hP hS => ?_)
    refine lv_istore (lv' := [(5, .int 0), (0, .ref b), (1, .ref (E.2.1 0)), (2, .ref ((Eq_ E qm).2.1 0)), (3, .ref bo), (4, .int x4)]) hx hb dL_law_1056 hl (by decide) rfl (fun ls hl => ?_)
    refine lv_aload_n hx hb dL_law_1058 rfl (lv_at hl 3 rfl) ?_
    refine lv_aload_n hx hb dL_law_1059 rfl (lv_at hl 1 rfl) ?_
    refine lv_iload hx hb dL_law_1060 (lv_at hl 5 rfl) ?_
    refine lv_iconst (v := 1) hx hb dL_law_1062 (by decide) ?_
    refine lv_iadd hx hb dL_law_1063 ?_
    refine va_sld hx hb hX hbl hbA hS (law_j ex4 hi hL 1 (by decide)) dL_law_1064 ?_
    refine lcM (As := [.int (xs (x4 + 1).toNatClampNeg)]) (rest := []) (k := 1) C0 (c_X12_kept l (Eq_ E qm) gm am (xs (x4 + 1).toNatClampNeg) h2) bw884 bw1178 bw778 bw1179 bw1180 hd_X12_kept ⟨Nat.le_of_ble_eq_true rfl, Nat.le_of_ble_eq_true rfl⟩ hP (va_D.eqv hD rfl) hS rfl hl.1 rfl (Nat.le_of_ble_eq_true rfl) dL_law_1065 ⟨by show _ ≤ 601024; omega, by show _ ≤ 7293033; omega⟩ (fun H locs hP hS => ?_)
    refine lv_istore (lv' := [(6, .int zm.1), (5, .int 0), (0, .ref b), (1, .ref (E.2.1 0)), (2, .ref ((Eq_ E qm).2.1 0)), (3, .ref bo), (4, .int x4)]) hx hb dL_law_1068 hl (by decide) rfl (fun ls hl => ?_)
    refine lv_aload_n hx hb dL_law_1070 rfl (lv_at hl 4 rfl) ?_
    refine lcM (As := []) (rest := []) (k := 0) C0 (c_X12_thrown l (Eq_ E qm) zm.2.1 zm.2.2) bw770 bw1107 bw778 bw1108 bw1109 hd_X12_thrown ⟨Nat.le_of_ble_eq_true rfl, Nat.le_of_ble_eq_true rfl⟩ hP (va_D.eqv hD rfl) hS rfl hl.1 rfl (Nat.le_of_ble_eq_true rfl) dL_law_1071 ⟨by show _ ≤ 601024; omega, by show _ ≤ 7293033; omega⟩ (fun H locs hP hS => ?_)
    refine lv_iload hx hb dL_law_1074 (lv_at hl 1 rfl) ?_
    refine lv_icmp_eq (tgt := 1081) hx hb dL_law_1076 (by decide) (fun _ => ?_) (fun c9 => absurd h3 c9)
    refine lv_iload hx hb dL_law_1081 (lv_at hl 1 rfl) ?_
    refine lv_if_ne (tgt := 1098) hx hb dL_law_1083 (by decide) (fun c9 => absurd rfl c9) (fun _ => ?_)
    refine lv_aload_n hx hb dL_law_1086 rfl (lv_at hl 5 rfl) ?_
    refine lv_iconst (v := 0) hx hb dL_law_1087 (by decide) ?_
    refine va_lald hx hb hK hP 54 3 go_L rfl (inB_in (by decide)) dL_law_1088 ?_
    refine lv_iload hx hb dL_law_1089 (lv_at hl 0 rfl) ?_
    refine lv_i2l (v := ((zm.1 : Int32).toInt64)) hx hb dL_law_1091 rfl ?_
    refine W.lcmp hx hb dL_law_1092 ?_
    refine lv_if_eq (tgt := 1098) hx hb dL_law_1093 (by decide) (fun _ => ?_) (fun c9 => absurd (lg_self (congrArg Int32.toInt64 h4)) c9)
    refine lv_goto (tgt := 1719) hx hb dL_law_1098 (by decide) ?_
    refine W.widen (k := CE + 2) (n := SE + 54) (by omega) (by omega) ?_
    exact hk z.2.1 z.2.2 zm.2.1 zm.2.2 (vp_updL fo 0 ((z.1 : Int32).toInt64)) H locs ls hI9 hP hS (lv_sub hl [2, 3, 4, 5, 6] rfl)
  · refine lcW (As := [.ref (E.2.1 0), .int (xs (x4 + 1).toNatClampNeg), .ref bo]) (rest := []) (k := 3) C0 (c_L_kept_t1 l hstk E g a (xs (x4 + 1).toNatClampNeg) bo fo h1 h5) bw1058 bw1176 bw1103 bw1177 hd_L_kept ⟨Nat.le_of_ble_eq_true rfl, Nat.le_of_ble_eq_true rfl⟩ hP (va_D.eqv hD rfl) hS rfl hl.1 rfl (Nat.le_of_ble_eq_true rfl) dL_law_1053 ⟨hcs.1, hcs.2⟩ (fun H locs hP hS => ?_)
    refine lv_istore (lv' := [(5, .int 1), (0, .ref b), (1, .ref (E.2.1 0)), (2, .ref ((Eq_ E qm).2.1 0)), (3, .ref bo), (4, .int x4)]) hx hb dL_law_1056 hl (by decide) rfl (fun ls hl => ?_)
    refine lv_aload_n hx hb dL_law_1058 rfl (lv_at hl 3 rfl) ?_
    refine lv_aload_n hx hb dL_law_1059 rfl (lv_at hl 1 rfl) ?_
    refine lv_iload hx hb dL_law_1060 (lv_at hl 5 rfl) ?_
    refine lv_iconst (v := 1) hx hb dL_law_1062 (by decide) ?_
    refine lv_iadd hx hb dL_law_1063 ?_
    refine va_sld hx hb hX hbl hbA hS (law_j ex4 hi hL 1 (by decide)) dL_law_1064 ?_
    refine lcM (As := [.int (xs (x4 + 1).toNatClampNeg)]) (rest := []) (k := 1) C0 (c_X12_kept l (Eq_ E qm) gm am (xs (x4 + 1).toNatClampNeg) h2) bw884 bw1178 bw778 bw1179 bw1180 hd_X12_kept ⟨Nat.le_of_ble_eq_true rfl, Nat.le_of_ble_eq_true rfl⟩ hP (va_D.eqv hD rfl) hS rfl hl.1 rfl (Nat.le_of_ble_eq_true rfl) dL_law_1065 ⟨by show _ ≤ 601024; omega, by show _ ≤ 7293033; omega⟩ (fun H locs hP hS => ?_)
    refine lv_istore (lv' := [(6, .int zm.1), (5, .int 1), (0, .ref b), (1, .ref (E.2.1 0)), (2, .ref ((Eq_ E qm).2.1 0)), (3, .ref bo), (4, .int x4)]) hx hb dL_law_1068 hl (by decide) rfl (fun ls hl => ?_)
    refine lv_aload_n hx hb dL_law_1070 rfl (lv_at hl 4 rfl) ?_
    refine lcM (As := []) (rest := []) (k := 0) C0 (c_X12_thrown l (Eq_ E qm) zm.2.1 zm.2.2) bw770 bw1107 bw778 bw1108 bw1109 hd_X12_thrown ⟨Nat.le_of_ble_eq_true rfl, Nat.le_of_ble_eq_true rfl⟩ hP (va_D.eqv hD rfl) hS rfl hl.1 rfl (Nat.le_of_ble_eq_true rfl) dL_law_1071 ⟨by show _ ≤ 601024; omega, by show _ ≤ 7293033; omega⟩ (fun H locs hP hS => ?_)
    refine lv_iload hx hb dL_law_1074 (lv_at hl 1 rfl) ?_
    refine lv_icmp_eq (tgt := 1081) hx hb dL_law_1076 (by decide) (fun _ => ?_) (fun c9 => absurd h3 c9)
    refine lv_iload hx hb dL_law_1081 (lv_at hl 1 rfl) ?_
    refine lv_if_ne (tgt := 1098) hx hb dL_law_1083 (by decide) (fun _ => ?_) (fun c9 => absurd c9 (by decide))
    refine lv_goto (tgt := 1719) hx hb dL_law_1098 (by decide) ?_
    refine W.widen (k := CE + 2) (n := SE + 54) (by omega) (by omega) ?_
    exact hk z.2.1 z.2.2 zm.2.1 zm.2.2 fo H locs ls hI9 hP hS (lv_sub hl [2, 3, 4, 5, 6] rfl)
set_option maxRecDepth 100000 in
set_option maxHeartbeats 40000000 in
theorem lc_first {p : Program} {l : Launch} {e : Env} {s : State} {m : MethodId} {below : List Frame} {meth : Method} {c : Code} {b L : Nat} {xs : Nat → Int32} {E : xE} (C0 : lwC p l s m c b L xs E) {I : xG → xA → xG → xA → Prop} (O : ob_first I) {g : xG} {a : xA} {gm : xG} {am : xA} (hI : I g a gm am) {i : Nat} {x4 : Int32} (ex4 : x4 = nI i) (hi : i + 5 ≤ L) (hL : L ≤ 2560) {bo : Nat} {fo : Nat → Int64} {qm : Nat → Nat} {H : Heap} {locs : List Loc} {CE SE : Nat} (hCE : CE ≤ 600000) (hSE : SE ≤ 7000000) {Q : State → Prop} (hP : va_P E.1 vwCl (wL E qm g a bo fo gm am) H) (hD : va_D (A0 s) (wL E qm g a bo fo gm am)) (hS : va_S (A0 s) s.heap H locs) {ls : Array Slot} (hl : lv_has ls 8 [(0, .ref b), (1, .ref (E.2.1 0)), (2, .ref ((Eq_ E qm).2.1 0)), (3, .ref bo), (4, .int x4)])
    (hk : ∀ (g : xG) (a : xA) (gm : xG) (am : xA) (fo : Nat → Int64) (H : Heap) (locs : List Loc) (ls : Array Slot), I g a gm am → va_P E.1 vwCl (wL E qm g a bo fo gm am) H → va_S (A0 s) s.heap H locs → lv_has ls 8 [(0, .ref b), (1, .ref (E.2.1 0)), (2, .ref ((Eq_ E qm).2.1 0)), (3, .ref bo), (4, .int x4)] → W p l e room_1 s m #[Value.ref b] below meth c H locs (CE + 2) (SE + 54) Q (F0 m 1719 ls [])) : W p l e room_1 s m #[Value.ref b] below meth c H locs CE SE Q (F0 m 1101 ls []) := by
  obtain ⟨hx, hb, hml, hown, hw, hK, hN, hT, hst, hz, hnc, hX, hbl, hstk⟩ := id C0
  have hbA : ¬ (A0 s) b := Nat.not_le.mpr hbl
  have hcs : CE + 1 ≤ room_1.cells ∧ SE + 6 ≤ room_1.slots := ⟨by show _ ≤ 601024; omega, by show _ ≤ 7293033; omega⟩
  refine lv_aload_n hx hb dL_law_1101 rfl (lv_at hl 1 rfl) ?_
  refine lv_aload_n hx hb dL_law_1102 rfl (lv_at hl 0 rfl) ?_
  refine lv_iload hx hb dL_law_1103 (lv_at hl 4 rfl) ?_
  refine lv_iconst (v := 1) hx hb dL_law_1105 (by decide) ?_
  refine lv_iadd hx hb dL_law_1106 ?_
  refine va_sld hx hb hX hbl hbA hS (law_j ex4 hi hL 1 (by decide)) dL_law_1107 ?_
  refine lv_aload_n hx hb dL_law_1108 rfl (lv_at hl 3 rfl) ?_
  rcases O g a gm am (xs (x4 + 1).toNatClampNeg) hI with ⟨z, zm, h1, h2, h3, h4, hI9⟩ | ⟨z, zm, h1, h5, h2, h3, hI9⟩
  · refine lcW (As := [.ref (E.2.1 0), .int (xs (x4 + 1).toNatClampNeg), .ref bo]) (rest := []) (k := 3) C0 (c_L_first_r l hstk E g a (xs (x4 + 1).toNatClampNeg) bo fo h1) bw1062 bw1181 bw1103 bw1182 hd_L_first ⟨Nat.le_of_ble_eq_true rfl, Nat.le_of_ble_eq_true rfl⟩ hP (va_D.eqv hD rfl) hS rfl hl.1 rfl (Nat.le_of_ble_eq_true rfl) dL_law_1109 ⟨hcs.1, hcs.2⟩ (fun H locs hP hS => ?_)
    refine lv_istore (lv' := [(5, .int 0), (0, .ref b), (1, .ref (E.2.1 0)), (2, .ref ((Eq_ E qm).2.1 0)), (3, .ref bo), (4, .int x4)]) hx hb dL_law_1112 hl (by decide) rfl (fun ls hl => ?_)
    refine lv_aload_n hx hb dL_law_1114 rfl (lv_at hl 3 rfl) ?_
    refine lv_aload_n hx hb dL_law_1115 rfl (lv_at hl 1 rfl) ?_
    refine lv_iload hx hb dL_law_1116 (lv_at hl 5 rfl) ?_
    refine lv_iconst (v := 1) hx hb dL_law_1118 (by decide) ?_
    refine lv_iadd hx hb dL_law_1119 ?_
    refine va_sld hx hb hX hbl hbA hS (law_j ex4 hi hL 1 (by decide)) dL_law_1120 ?_
    refine lcMl (As := [.int (xs (x4 + 1).toNatClampNeg)]) (rest := []) (k := 1) C0 (c_X12_first l (Eq_ E qm) gm am (xs (x4 + 1).toNatClampNeg) h2) bw909 bw1183 bw778 bw1184 bw1185 hd_X12_first ⟨Nat.le_of_ble_eq_true rfl, Nat.le_of_ble_eq_true rfl⟩ hP (va_D.eqv hD rfl) hS rfl hl.1 rfl (Nat.le_of_ble_eq_true rfl) dL_law_1121 ⟨by show _ ≤ 601024; omega, by show _ ≤ 7293033; omega⟩ (fun H locs hP hS => ?_)
    refine lv_lstore (lv' := [(6, .long zm.1), (5, .int 0), (0, .ref b), (1, .ref (E.2.1 0)), (2, .ref ((Eq_ E qm).2.1 0)), (3, .ref bo), (4, .int x4)]) hx hb dL_law_1124 hl (by decide) rfl (fun ls hl => ?_)
    refine lv_aload_n hx hb dL_law_1126 rfl (lv_at hl 4 rfl) ?_
    refine lcM (As := []) (rest := []) (k := 0) C0 (c_X12_thrown l (Eq_ E qm) zm.2.1 zm.2.2) bw770 bw1107 bw778 bw1108 bw1109 hd_X12_thrown ⟨Nat.le_of_ble_eq_true rfl, Nat.le_of_ble_eq_true rfl⟩ hP (va_D.eqv hD rfl) hS rfl hl.1 rfl (Nat.le_of_ble_eq_true rfl) dL_law_1127 ⟨by show _ ≤ 601024; omega, by show _ ≤ 7293033; omega⟩ (fun H locs hP hS => ?_)
    refine lv_iload hx hb dL_law_1130 (lv_at hl 1 rfl) ?_
    refine lv_icmp_eq (tgt := 1137) hx hb dL_law_1132 (by decide) (fun _ => ?_) (fun c9 => absurd h3 c9)
    refine lv_iload hx hb dL_law_1137 (lv_at hl 1 rfl) ?_
    refine lv_if_ne (tgt := 1153) hx hb dL_law_1139 (by decide) (fun c9 => absurd rfl c9) (fun _ => ?_)
    refine lv_aload_n hx hb dL_law_1142 rfl (lv_at hl 5 rfl) ?_
    refine lv_iconst (v := 0) hx hb dL_law_1143 (by decide) ?_
    refine va_lald hx hb hK hP 54 3 go_L rfl (inB_in (by decide)) dL_law_1144 ?_
    refine lv_lload hx hb dL_law_1145 (lv_at hl 0 rfl) ?_
    refine W.lcmp hx hb dL_law_1147 ?_
    refine lv_if_eq (tgt := 1153) hx hb dL_law_1148 (by decide) (fun _ => ?_) (fun c9 => absurd (lg_self h4) c9)
    refine lv_goto (tgt := 1719) hx hb dL_law_1153 (by decide) ?_
    refine W.widen (k := CE + 2) (n := SE + 54) (by omega) (by omega) ?_
    exact hk z.2.1 z.2.2 zm.2.1 zm.2.2 (vp_updL fo 0 z.1) H locs ls hI9 hP hS (lv_sub hl [2, 3, 4, 5, 6] rfl)
  · refine lcW (As := [.ref (E.2.1 0), .int (xs (x4 + 1).toNatClampNeg), .ref bo]) (rest := []) (k := 3) C0 (c_L_first_t1 l hstk E g a (xs (x4 + 1).toNatClampNeg) bo fo h1 h5) bw1062 bw1181 bw1103 bw1182 hd_L_first ⟨Nat.le_of_ble_eq_true rfl, Nat.le_of_ble_eq_true rfl⟩ hP (va_D.eqv hD rfl) hS rfl hl.1 rfl (Nat.le_of_ble_eq_true rfl) dL_law_1109 ⟨hcs.1, hcs.2⟩ (fun H locs hP hS => ?_)
    refine lv_istore (lv' := [(5, .int 1), (0, .ref b), (1, .ref (E.2.1 0)), (2, .ref ((Eq_ E qm).2.1 0)), (3, .ref bo), (4, .int x4)]) hx hb dL_law_1112 hl (by decide) rfl (fun ls hl => ?_)
    refine lv_aload_n hx hb dL_law_1114 rfl (lv_at hl 3 rfl) ?_
    refine lv_aload_n hx hb dL_law_1115 rfl (lv_at hl 1 rfl) ?_
    refine lv_iload hx hb dL_law_1116 (lv_at hl 5 rfl) ?_
    refine lv_iconst (v := 1) hx hb dL_law_1118 (by decide) ?_
    refine lv_iadd hx hb dL_law_1119 ?_
    refine va_sld hx hb hX hbl hbA hS (law_j ex4 hi hL 1 (by decide)) dL_law_1120 ?_
    refine lcMl (As := [.int (xs (x4 + 1).toNatClampNeg)]) (rest := []) (k := 1) C0 (c_X12_first l (Eq_ E qm) gm am (xs (x4 + 1).toNatClampNeg) h2) bw909 bw1183 bw778 bw1184 bw1185 hd_X12_first ⟨Nat.le_of_ble_eq_true rfl, Nat.le_of_ble_eq_true rfl⟩ hP (va_D.eqv hD rfl) hS rfl hl.1 rfl (Nat.le_of_ble_eq_true rfl) dL_law_1121 ⟨by show _ ≤ 601024; omega, by show _ ≤ 7293033; omega⟩ (fun H locs hP hS => ?_)
    refine lv_lstore (lv' := [(6, .long zm.1), (5, .int 1), (0, .ref b), (1, .ref (E.2.1 0)), (2, .ref ((Eq_ E qm).2.1 0)), (3, .ref bo), (4, .int x4)]) hx hb dL_law_1124 hl (by decide) rfl (fun ls hl => ?_)
    refine lv_aload_n hx hb dL_law_1126 rfl (lv_at hl 4 rfl) ?_
    refine lcM (As := []) (rest := []) (k := 0) C0 (c_X12_thrown l (Eq_ E qm) zm.2.1 zm.2.2) bw770 bw1107 bw778 bw1108 bw1109 hd_X12_thrown ⟨Nat.le_of_ble_eq_true rfl, Nat.le_of_ble_eq_true rfl⟩ hP (va_D.eqv hD rfl) hS rfl hl.1 rfl (Nat.le_of_ble_eq_true rfl) dL_law_1127 ⟨by show _ ≤ 601024; omega, by show _ ≤ 7293033; omega⟩ (fun H locs hP hS => ?_)
    refine lv_iload hx hb dL_law_1130 (lv_at hl 1 rfl) ?_
    refine lv_icmp_eq (tgt := 1137) hx hb dL_law_1132 (by decide) (fun _ => ?_) (fun c9 => absurd h3 c9)
    refine lv_iload hx hb dL_law_1137 (lv_at hl 1 rfl) ?_
    refine lv_if_ne (tgt := 1153) hx hb dL_law_1139 (by decide) (fun _ => ?_) (fun c9 => absurd c9 (by decide))
    refine lv_goto (tgt := 1719) hx hb dL_law_1153 (by decide) ?_
    refine W.widen (k := CE + 2) (n := SE + 54) (by omega) (by omega) ?_
    exact hk z.2.1 z.2.2 zm.2.1 zm.2.2 fo H locs ls hI9 hP hS (lv_sub hl [2, 3, 4, 5, 6] rfl)
set_option maxRecDepth 100000 in
set_option maxHeartbeats 40000000 in
theorem lc_ends {p : Program} {l : Launch} {e : Env} {s : State} {m : MethodId} {below : List Frame} {meth : Method} {c : Code} {b L : Nat} {xs : Nat → Int32} {E : xE} (C0 : lwC p l s m c b L xs E) {I : xG → xA → xG → xA → Prop} (O : ob_ends I) {g : xG} {a : xA} {gm : xG} {am : xA} (hI : I g a gm am) {i : Nat} {x4 : Int32} (ex4 : x4 = nI i) (hi : i + 5 ≤ L) (hL : L ≤ 2560) {bo : Nat} {fo : Nat → Int64} {qm : Nat → Nat} {H : Heap} {locs : List Loc} {CE SE : Nat} (hCE : CE ≤ 600000) (hSE : SE ≤ 7000000) {Q : State → Prop} (hP : va_P E.1 vwCl (wL E qm g a bo fo gm am) H) (hD : va_D (A0 s) (wL E qm g a bo fo gm am)) (hS : va_S (A0 s) s.heap H locs) {ls : Array Slot} (hl : lv_has ls 8 [(0, .ref b), (1, .ref (E.2.1 0)), (2, .ref ((Eq_ E qm).2.1 0)), (3, .ref bo), (4, .int x4)])
    (hk : ∀ (g : xG) (a : xA) (gm : xG) (am : xA) (fo : Nat → Int64) (H : Heap) (locs : List Loc) (ls : Array Slot), I g a gm am → va_P E.1 vwCl (wL E qm g a bo fo gm am) H → va_S (A0 s) s.heap H locs → lv_has ls 8 [(0, .ref b), (1, .ref (E.2.1 0)), (2, .ref ((Eq_ E qm).2.1 0)), (3, .ref bo), (4, .int x4)] → W p l e room_1 s m #[Value.ref b] below meth c H locs (CE + 2) (SE + 54) Q (F0 m 1719 ls [])) : W p l e room_1 s m #[Value.ref b] below meth c H locs CE SE Q (F0 m 1156 ls []) := by
  obtain ⟨hx, hb, hml, hown, hw, hK, hN, hT, hst, hz, hnc, hX, hbl, hstk⟩ := id C0
  have hbA : ¬ (A0 s) b := Nat.not_le.mpr hbl
  have hcs : CE + 1 ≤ room_1.cells ∧ SE + 6 ≤ room_1.slots := ⟨by show _ ≤ 601024; omega, by show _ ≤ 7293033; omega⟩
  refine lv_aload_n hx hb dL_law_1156 rfl (lv_at hl 1 rfl) ?_
  obtain ⟨z, zm, h1, h2, h4, hI9⟩ := O g a gm am hI
  refine lcX (As := []) (rest := []) (k := 0) C0 (c_X11_ends l E g a h1) bw692 bw1186 bw13 bw1187 bw1188 hd_X11_ends ⟨Nat.le_of_ble_eq_true rfl, Nat.le_of_ble_eq_true rfl⟩ hP (va_D.eqv hD rfl) hS rfl hl.1 rfl (Nat.le_of_ble_eq_true rfl) dL_law_1157 ⟨by show _ ≤ 601024; omega, by show _ ≤ 7293033; omega⟩ (fun H locs hP hS => ?_)
  refine lv_aload_n hx hb dL_law_1160 rfl (lv_at hl 2 rfl) ?_
  refine lcM (As := []) (rest := [.int z.1]) (k := 0) C0 (c_X12_ends l (Eq_ E qm) gm am h2) bw914 bw1189 bw778 bw1190 bw1191 hd_X12_ends ⟨Nat.le_of_ble_eq_true rfl, Nat.le_of_ble_eq_true rfl⟩ hP (va_D.eqv hD rfl) hS rfl hl.1 rfl (Nat.le_of_ble_eq_true rfl) dL_law_1161 ⟨by show _ ≤ 601024; omega, by show _ ≤ 7293033; omega⟩ (fun H locs hP hS => ?_)
  refine lv_icmp_eq (tgt := 1719) hx hb dL_law_1164 (by decide) (fun _ => ?_) (fun c9 => absurd h4 c9)
  refine W.widen (k := CE + 2) (n := SE + 54) (by omega) (by omega) ?_
  exact hk z.2.1 z.2.2 zm.2.1 zm.2.2 fo H locs ls hI9 hP hS (lv_sub hl [0, 1, 2, 3, 4] rfl)
set_option maxRecDepth 100000 in
set_option maxHeartbeats 40000000 in
theorem lc_core {p : Program} {l : Launch} {e : Env} {s : State} {m : MethodId} {below : List Frame} {meth : Method} {c : Code} {b L : Nat} {xs : Nat → Int32} {E : xE} (C0 : lwC p l s m c b L xs E) {I : xG → xA → xG → xA → Prop} (O : ob_core I) {g : xG} {a : xA} {gm : xG} {am : xA} (hI : I g a gm am) {i : Nat} {x4 : Int32} (ex4 : x4 = nI i) (hi : i + 5 ≤ L) (hL : L ≤ 2560) {bo : Nat} {fo : Nat → Int64} {qm : Nat → Nat} {H : Heap} {locs : List Loc} {CE SE : Nat} (hCE : CE ≤ 600000) (hSE : SE ≤ 7000000) {Q : State → Prop} (hP : va_P E.1 vwCl (wL E qm g a bo fo gm am) H) (hD : va_D (A0 s) (wL E qm g a bo fo gm am)) (hS : va_S (A0 s) s.heap H locs) {ls : Array Slot} (hl : lv_has ls 8 [(0, .ref b), (1, .ref (E.2.1 0)), (2, .ref ((Eq_ E qm).2.1 0)), (3, .ref bo), (4, .int x4)])
    (hk : ∀ (g : xG) (a : xA) (gm : xG) (am : xA) (fo : Nat → Int64) (H : Heap) (locs : List Loc) (ls : Array Slot), I g a gm am → va_P E.1 vwCl (wL E qm g a bo fo gm am) H → va_S (A0 s) s.heap H locs → lv_has ls 8 [(0, .ref b), (1, .ref (E.2.1 0)), (2, .ref ((Eq_ E qm).2.1 0)), (3, .ref bo), (4, .int x4)] → W p l e room_1 s m #[Value.ref b] below meth c H locs (CE + 2) (SE + 54) Q (F0 m 1719 ls [])) : W p l e room_1 s m #[Value.ref b] below meth c H locs CE SE Q (F0 m 1169 ls []) := by
  obtain ⟨hx, hb, hml, hown, hw, hK, hN, hT, hst, hz, hnc, hX, hbl, hstk⟩ := id C0
  have hbA : ¬ (A0 s) b := Nat.not_le.mpr hbl
  have hcs : CE + 1 ≤ room_1.cells ∧ SE + 6 ≤ room_1.slots := ⟨by show _ ≤ 601024; omega, by show _ ≤ 7293033; omega⟩
  refine lv_aload_n hx hb dL_law_1169 rfl (lv_at hl 1 rfl) ?_
  obtain ⟨z, zm, h1, h2, h4, hI9⟩ := O g a gm am hI
  refine lcX (As := []) (rest := []) (k := 0) C0 (c_X11_core l E g a h1) bw696 bw1192 bw13 bw1193 bw1194 hd_X11_core ⟨Nat.le_of_ble_eq_true rfl, Nat.le_of_ble_eq_true rfl⟩ hP (va_D.eqv hD rfl) hS rfl hl.1 rfl (Nat.le_of_ble_eq_true rfl) dL_law_1170 ⟨by show _ ≤ 601024; omega, by show _ ≤ 7293033; omega⟩ (fun H locs hP hS => ?_)
  refine lv_aload_n hx hb dL_law_1173 rfl (lv_at hl 2 rfl) ?_
  refine lcM (As := []) (rest := [.int z.1]) (k := 0) C0 (c_X12_core l (Eq_ E qm) gm am h2) bw915 bw1195 bw778 bw1196 bw1197 hd_X12_core ⟨Nat.le_of_ble_eq_true rfl, Nat.le_of_ble_eq_true rfl⟩ hP (va_D.eqv hD rfl) hS rfl hl.1 rfl (Nat.le_of_ble_eq_true rfl) dL_law_1174 ⟨by show _ ≤ 601024; omega, by show _ ≤ 7293033; omega⟩ (fun H locs hP hS => ?_)
  refine lv_icmp_eq (tgt := 1719) hx hb dL_law_1177 (by decide) (fun _ => ?_) (fun c9 => absurd h4 c9)
  refine W.widen (k := CE + 2) (n := SE + 54) (by omega) (by omega) ?_
  exact hk z.2.1 z.2.2 zm.2.1 zm.2.2 fo H locs ls hI9 hP hS (lv_sub hl [0, 1, 2, 3, 4] rfl)
set_option maxRecDepth 100000 in
set_option maxHeartbeats 40000000 in
theorem lc_around {p : Program} {l : Launch} {e : Env} {s : State} {m : MethodId} {below : List Frame} {meth : Method} {c : Code} {b L : Nat} {xs : Nat → Int32} {E : xE} (C0 : lwC p l s m c b L xs E) {I : xG → xA → xG → xA → Prop} (O : ob_around I) {g : xG} {a : xA} {gm : xG} {am : xA} (hI : I g a gm am) {i : Nat} {x4 : Int32} (ex4 : x4 = nI i) (hi : i + 5 ≤ L) (hL : L ≤ 2560) {bo : Nat} {fo : Nat → Int64} {qm : Nat → Nat} {H : Heap} {locs : List Loc} {CE SE : Nat} (hCE : CE ≤ 600000) (hSE : SE ≤ 7000000) {Q : State → Prop} (hP : va_P E.1 vwCl (wL E qm g a bo fo gm am) H) (hD : va_D (A0 s) (wL E qm g a bo fo gm am)) (hS : va_S (A0 s) s.heap H locs) {ls : Array Slot} (hl : lv_has ls 8 [(0, .ref b), (1, .ref (E.2.1 0)), (2, .ref ((Eq_ E qm).2.1 0)), (3, .ref bo), (4, .int x4)])
    (hk : ∀ (g : xG) (a : xA) (gm : xG) (am : xA) (fo : Nat → Int64) (H : Heap) (locs : List Loc) (ls : Array Slot), I g a gm am → va_P E.1 vwCl (wL E qm g a bo fo gm am) H → va_S (A0 s) s.heap H locs → lv_has ls 8 [(0, .ref b), (1, .ref (E.2.1 0)), (2, .ref ((Eq_ E qm).2.1 0)), (3, .ref bo), (4, .int x4)] → W p l e room_1 s m #[Value.ref b] below meth c H locs (CE + 2) (SE + 54) Q (F0 m 1719 ls [])) : W p l e room_1 s m #[Value.ref b] below meth c H locs CE SE Q (F0 m 1182 ls []) := by
  obtain ⟨hx, hb, hml, hown, hw, hK, hN, hT, hst, hz, hnc, hX, hbl, hstk⟩ := id C0
  have hbA : ¬ (A0 s) b := Nat.not_le.mpr hbl
  have hcs : CE + 1 ≤ room_1.cells ∧ SE + 6 ≤ room_1.slots := ⟨by show _ ≤ 601024; omega, by show _ ≤ 7293033; omega⟩
  refine lv_aload_n hx hb dL_law_1182 rfl (lv_at hl 1 rfl) ?_
  refine lv_aload_n hx hb dL_law_1183 rfl (lv_at hl 0 rfl) ?_
  refine lv_iload hx hb dL_law_1184 (lv_at hl 4 rfl) ?_
  refine lv_iconst (v := 1) hx hb dL_law_1186 (by decide) ?_
  refine lv_iadd hx hb dL_law_1187 ?_
  refine va_sld hx hb hX hbl hbA hS (law_j ex4 hi hL 1 (by decide)) dL_law_1188 ?_
  refine lv_aload_n hx hb dL_law_1189 rfl (lv_at hl 3 rfl) ?_
  rcases O g a gm am (xs (x4 + 1).toNatClampNeg) hI with ⟨z, zm, h1, h2, h3, h4, hI9⟩ | ⟨z, zm, h1, h5, h2, h3, hI9⟩ | ⟨z, zm, h1, h5, h2, h3, hI9⟩
  · refine lcW (As := [.ref (E.2.1 0), .int (xs (x4 + 1).toNatClampNeg), .ref bo]) (rest := []) (k := 3) C0 (c_L_around_r l hstk E g a (xs (x4 + 1).toNatClampNeg) bo fo h1) bw1066 bw1198 bw1103 bw1199 hd_L_around ⟨Nat.le_of_ble_eq_true rfl, Nat.le_of_ble_eq_true rfl⟩ hP (va_D.eqv hD rfl) hS rfl hl.1 rfl (Nat.le_of_ble_eq_true rfl) dL_law_1190 ⟨hcs.1, hcs.2⟩ (fun H locs hP hS => ?_)
    refine lv_istore (lv' := [(5, .int 0), (0, .ref b), (1, .ref (E.2.1 0)), (2, .ref ((Eq_ E qm).2.1 0)), (3, .ref bo), (4, .int x4)]) hx hb dL_law_1193 hl (by decide) rfl (fun ls hl => ?_)
    refine lv_aload_n hx hb dL_law_1195 rfl (lv_at hl 3 rfl) ?_
    refine lv_aload_n hx hb dL_law_1196 rfl (lv_at hl 1 rfl) ?_
    refine lv_iload hx hb dL_law_1197 (lv_at hl 5 rfl) ?_
    refine lv_iconst (v := 1) hx hb dL_law_1199 (by decide) ?_
    refine lv_iadd hx hb dL_law_1200 ?_
    refine va_sld hx hb hX hbl hbA hS (law_j ex4 hi hL 1 (by decide)) dL_law_1201 ?_
    refine lcM (As := [.int (xs (x4 + 1).toNatClampNeg)]) (rest := []) (k := 1) C0 (c_X12_around l (Eq_ E qm) gm am (xs (x4 + 1).toNatClampNeg) h2) bw916 bw1200 bw778 bw1201 bw1202 hd_X12_around ⟨Nat.le_of_ble_eq_true rfl, Nat.le_of_ble_eq_true rfl⟩ hP (va_D.eqv hD rfl) hS rfl hl.1 rfl (Nat.le_of_ble_eq_true rfl) dL_law_1202 ⟨by show _ ≤ 601024; omega, by show _ ≤ 7293033; omega⟩ (fun H locs hP hS => ?_)
    refine lv_istore (lv' := [(6, .int zm.1), (5, .int 0), (0, .ref b), (1, .ref (E.2.1 0)), (2, .ref ((Eq_ E qm).2.1 0)), (3, .ref bo), (4, .int x4)]) hx hb dL_law_1205 hl (by decide) rfl (fun ls hl => ?_)
    refine lv_aload_n hx hb dL_law_1207 rfl (lv_at hl 4 rfl) ?_
    refine lcM (As := []) (rest := []) (k := 0) C0 (c_X12_thrown l (Eq_ E qm) zm.2.1 zm.2.2) bw770 bw1107 bw778 bw1108 bw1109 hd_X12_thrown ⟨Nat.le_of_ble_eq_true rfl, Nat.le_of_ble_eq_true rfl⟩ hP (va_D.eqv hD rfl) hS rfl hl.1 rfl (Nat.le_of_ble_eq_true rfl) dL_law_1208 ⟨by show _ ≤ 601024; omega, by show _ ≤ 7293033; omega⟩ (fun H locs hP hS => ?_)
    refine lv_iload hx hb dL_law_1211 (lv_at hl 1 rfl) ?_
    refine lv_icmp_eq (tgt := 1218) hx hb dL_law_1213 (by decide) (fun _ => ?_) (fun c9 => absurd h3 c9)
    refine lv_iload hx hb dL_law_1218 (lv_at hl 1 rfl) ?_
    refine lv_if_ne (tgt := 1235) hx hb dL_law_1220 (by decide) (fun c9 => absurd rfl c9) (fun _ => ?_)
    refine lv_aload_n hx hb dL_law_1223 rfl (lv_at hl 5 rfl) ?_
    refine lv_iconst (v := 0) hx hb dL_law_1224 (by decide) ?_
    refine va_lald hx hb hK hP 54 3 go_L rfl (inB_in (by decide)) dL_law_1225 ?_
    refine lv_iload hx hb dL_law_1226 (lv_at hl 0 rfl) ?_
    refine lv_i2l (v := ((zm.1 : Int32).toInt64)) hx hb dL_law_1228 rfl ?_
    refine W.lcmp hx hb dL_law_1229 ?_
    refine lv_if_eq (tgt := 1235) hx hb dL_law_1230 (by decide) (fun _ => ?_) (fun c9 => absurd (lg_self (congrArg Int32.toInt64 h4)) c9)
    refine lv_goto (tgt := 1719) hx hb dL_law_1235 (by decide) ?_
    refine W.widen (k := CE + 2) (n := SE + 54) (by omega) (by omega) ?_
    exact hk z.2.1 z.2.2 zm.2.1 zm.2.2 (vp_updL fo 0 ((z.1 : Int32).toInt64)) H locs ls hI9 hP hS (lv_sub hl [2, 3, 4, 5, 6] rfl)
  · refine lcW (As := [.ref (E.2.1 0), .int (xs (x4 + 1).toNatClampNeg), .ref bo]) (rest := []) (k := 3) C0 (c_L_around_t3 l hstk E g a (xs (x4 + 1).toNatClampNeg) bo fo h1 h5) bw1066 bw1198 bw1103 bw1199 hd_L_around ⟨Nat.le_of_ble_eq_true rfl, Nat.le_of_ble_eq_true rfl⟩ hP (va_D.eqv hD rfl) hS rfl hl.1 rfl (Nat.le_of_ble_eq_true rfl) dL_law_1190 ⟨hcs.1, hcs.2⟩ (fun H locs hP hS => ?_)
    refine lv_istore (lv' := [(5, .int 1), (0, .ref b), (1, .ref (E.2.1 0)), (2, .ref ((Eq_ E qm).2.1 0)), (3, .ref bo), (4, .int x4)]) hx hb dL_law_1193 hl (by decide) rfl (fun ls hl => ?_)
    refine lv_aload_n hx hb dL_law_1195 rfl (lv_at hl 3 rfl) ?_
    refine lv_aload_n hx hb dL_law_1196 rfl (lv_at hl 1 rfl) ?_
    refine lv_iload hx hb dL_law_1197 (lv_at hl 5 rfl) ?_
    refine lv_iconst (v := 1) hx hb dL_law_1199 (by decide) ?_
    refine lv_iadd hx hb dL_law_1200 ?_
    refine va_sld hx hb hX hbl hbA hS (law_j ex4 hi hL 1 (by decide)) dL_law_1201 ?_
    refine lcM (As := [.int (xs (x4 + 1).toNatClampNeg)]) (rest := []) (k := 1) C0 (c_X12_around l (Eq_ E qm) gm am (xs (x4 + 1).toNatClampNeg) h2) bw916 bw1200 bw778 bw1201 bw1202 hd_X12_around ⟨Nat.le_of_ble_eq_true rfl, Nat.le_of_ble_eq_true rfl⟩ hP (va_D.eqv hD rfl) hS rfl hl.1 rfl (Nat.le_of_ble_eq_true rfl) dL_law_1202 ⟨by show _ ≤ 601024; omega, by show _ ≤ 7293033; omega⟩ (fun H locs hP hS => ?_)
    refine lv_istore (lv' := [(6, .int zm.1), (5, .int 1), (0, .ref b), (1, .ref (E.2.1 0)), (2, .ref ((Eq_ E qm).2.1 0)), (3, .ref bo), (4, .int x4)]) hx hb dL_law_1205 hl (by decide) rfl (fun ls hl => ?_)
    refine lv_aload_n hx hb dL_law_1207 rfl (lv_at hl 4 rfl) ?_
    refine lcM (As := []) (rest := []) (k := 0) C0 (c_X12_thrown l (Eq_ E qm) zm.2.1 zm.2.2) bw770 bw1107 bw778 bw1108 bw1109 hd_X12_thrown ⟨Nat.le_of_ble_eq_true rfl, Nat.le_of_ble_eq_true rfl⟩ hP (va_D.eqv hD rfl) hS rfl hl.1 rfl (Nat.le_of_ble_eq_true rfl) dL_law_1208 ⟨by show _ ≤ 601024; omega, by show _ ≤ 7293033; omega⟩ (fun H locs hP hS => ?_)
    refine lv_iload hx hb dL_law_1211 (lv_at hl 1 rfl) ?_
    refine lv_icmp_eq (tgt := 1218) hx hb dL_law_1213 (by decide) (fun _ => ?_) (fun c9 => absurd h3 c9)
    refine lv_iload hx hb dL_law_1218 (lv_at hl 1 rfl) ?_
    refine lv_if_ne (tgt := 1235) hx hb dL_law_1220 (by decide) (fun _ => ?_) (fun c9 => absurd c9 (by decide))
    refine lv_goto (tgt := 1719) hx hb dL_law_1235 (by decide) ?_
    refine W.widen (k := CE + 2) (n := SE + 54) (by omega) (by omega) ?_
    exact hk z.2.1 z.2.2 zm.2.1 zm.2.2 fo H locs ls hI9 hP hS (lv_sub hl [2, 3, 4, 5, 6] rfl)
  · refine lcW (As := [.ref (E.2.1 0), .int (xs (x4 + 1).toNatClampNeg), .ref bo]) (rest := []) (k := 3) C0 (c_L_around_t2 l hstk E g a (xs (x4 + 1).toNatClampNeg) bo fo h1 h5) bw1066 bw1198 bw1103 bw1199 hd_L_around ⟨Nat.le_of_ble_eq_true rfl, Nat.le_of_ble_eq_true rfl⟩ hP (va_D.eqv hD rfl) hS rfl hl.1 rfl (Nat.le_of_ble_eq_true rfl) dL_law_1190 ⟨hcs.1, hcs.2⟩ (fun H locs hP hS => ?_)
    refine lv_istore (lv' := [(5, .int 2), (0, .ref b), (1, .ref (E.2.1 0)), (2, .ref ((Eq_ E qm).2.1 0)), (3, .ref bo), (4, .int x4)]) hx hb dL_law_1193 hl (by decide) rfl (fun ls hl => ?_)
    refine lv_aload_n hx hb dL_law_1195 rfl (lv_at hl 3 rfl) ?_
    refine lv_aload_n hx hb dL_law_1196 rfl (lv_at hl 1 rfl) ?_
    refine lv_iload hx hb dL_law_1197 (lv_at hl 5 rfl) ?_
    refine lv_iconst (v := 1) hx hb dL_law_1199 (by decide) ?_
    refine lv_iadd hx hb dL_law_1200 ?_
    refine va_sld hx hb hX hbl hbA hS (law_j ex4 hi hL 1 (by decide)) dL_law_1201 ?_
    refine lcM (As := [.int (xs (x4 + 1).toNatClampNeg)]) (rest := []) (k := 1) C0 (c_X12_around l (Eq_ E qm) gm am (xs (x4 + 1).toNatClampNeg) h2) bw916 bw1200 bw778 bw1201 bw1202 hd_X12_around ⟨Nat.le_of_ble_eq_true rfl, Nat.le_of_ble_eq_true rfl⟩ hP (va_D.eqv hD rfl) hS rfl hl.1 rfl (Nat.le_of_ble_eq_true rfl) dL_law_1202 ⟨by show _ ≤ 601024; omega, by show _ ≤ 7293033; omega⟩ (fun H locs hP hS => ?_)
    refine lv_istore (lv' := [(6, .int zm.1), (5, .int 2), (0, .ref b), (1, .ref (E.2.1 0)), (2, .ref ((Eq_ E qm).2.1 0)), (3, .ref bo), (4, .int x4)]) hx hb dL_law_1205 hl (by decide) rfl (fun ls hl => ?_)
    refine lv_aload_n hx hb dL_law_1207 rfl (lv_at hl 4 rfl) ?_
    refine lcM (As := []) (rest := []) (k := 0) C0 (c_X12_thrown l (Eq_ E qm) zm.2.1 zm.2.2) bw770 bw1107 bw778 bw1108 bw1109 hd_X12_thrown ⟨Nat.le_of_ble_eq_true rfl, Nat.le_of_ble_eq_true rfl⟩ hP (va_D.eqv hD rfl) hS rfl hl.1 rfl (Nat.le_of_ble_eq_true rfl) dL_law_1208 ⟨by show _ ≤ 601024; omega, by show _ ≤ 7293033; omega⟩ (fun H locs hP hS => ?_)
    refine lv_iload hx hb dL_law_1211 (lv_at hl 1 rfl) ?_
    refine lv_icmp_eq (tgt := 1218) hx hb dL_law_1213 (by decide) (fun _ => ?_) (fun c9 => absurd h3 c9)
    refine lv_iload hx hb dL_law_1218 (lv_at hl 1 rfl) ?_
    refine lv_if_ne (tgt := 1235) hx hb dL_law_1220 (by decide) (fun _ => ?_) (fun c9 => absurd c9 (by decide))
    refine lv_goto (tgt := 1719) hx hb dL_law_1235 (by decide) ?_
    refine W.widen (k := CE + 2) (n := SE + 54) (by omega) (by omega) ?_
    exact hk z.2.1 z.2.2 zm.2.1 zm.2.2 fo H locs ls hI9 hP hS (lv_sub hl [2, 3, 4, 5, 6] rfl)
set_option maxRecDepth 100000 in
set_option maxHeartbeats 40000000 in
theorem lc_type {p : Program} {l : Launch} {e : Env} {s : State} {m : MethodId} {below : List Frame} {meth : Method} {c : Code} {b L : Nat} {xs : Nat → Int32} {E : xE} (C0 : lwC p l s m c b L xs E) {I : xG → xA → xG → xA → Prop} (O : ob_type I) {g : xG} {a : xA} {gm : xG} {am : xA} (hI : I g a gm am) {i : Nat} {x4 : Int32} (ex4 : x4 = nI i) (hi : i + 5 ≤ L) (hL : L ≤ 2560) {bo : Nat} {fo : Nat → Int64} {qm : Nat → Nat} {H : Heap} {locs : List Loc} {CE SE : Nat} (hCE : CE ≤ 600000) (hSE : SE ≤ 7000000) {Q : State → Prop} (hP : va_P E.1 vwCl (wL E qm g a bo fo gm am) H) (hD : va_D (A0 s) (wL E qm g a bo fo gm am)) (hS : va_S (A0 s) s.heap H locs) {ls : Array Slot} (hl : lv_has ls 8 [(0, .ref b), (1, .ref (E.2.1 0)), (2, .ref ((Eq_ E qm).2.1 0)), (3, .ref bo), (4, .int x4)])
    (hk : ∀ (g : xG) (a : xA) (gm : xG) (am : xA) (fo : Nat → Int64) (H : Heap) (locs : List Loc) (ls : Array Slot), I g a gm am → va_P E.1 vwCl (wL E qm g a bo fo gm am) H → va_S (A0 s) s.heap H locs → lv_has ls 8 [(0, .ref b), (1, .ref (E.2.1 0)), (2, .ref ((Eq_ E qm).2.1 0)), (3, .ref bo), (4, .int x4)] → W p l e room_1 s m #[Value.ref b] below meth c H locs (CE + 2) (SE + 54) Q (F0 m 1719 ls [])) : W p l e room_1 s m #[Value.ref b] below meth c H locs CE SE Q (F0 m 1238 ls []) := by
  obtain ⟨hx, hb, hml, hown, hw, hK, hN, hT, hst, hz, hnc, hX, hbl, hstk⟩ := id C0
  have hbA : ¬ (A0 s) b := Nat.not_le.mpr hbl
  have hcs : CE + 1 ≤ room_1.cells ∧ SE + 6 ≤ room_1.slots := ⟨by show _ ≤ 601024; omega, by show _ ≤ 7293033; omega⟩
  refine lv_aload_n hx hb dL_law_1238 rfl (lv_at hl 1 rfl) ?_
  refine lv_aload_n hx hb dL_law_1239 rfl (lv_at hl 0 rfl) ?_
  refine lv_iload hx hb dL_law_1240 (lv_at hl 4 rfl) ?_
  refine lv_iconst (v := 1) hx hb dL_law_1242 (by decide) ?_
  refine lv_iadd hx hb dL_law_1243 ?_
  refine va_sld hx hb hX hbl hbA hS (law_j ex4 hi hL 1 (by decide)) dL_law_1244 ?_
  refine lv_i2l (v := (((xs (x4 + 1).toNatClampNeg) : Int32).toInt64)) hx hb dL_law_1245 rfl ?_
  refine lv_bipush (v := 32) hx hb dL_law_1246 (by decide) ?_
  refine lv_lshl (v := ((((xs (x4 + 1).toNatClampNeg) : Int32).toInt64) <<< ((32 : Int32).toInt64 &&& 63))) hx hb dL_law_1248 rfl ?_
  refine lv_aload_n hx hb dL_law_1249 rfl (lv_at hl 0 rfl) ?_
  refine lv_iload hx hb dL_law_1250 (lv_at hl 4 rfl) ?_
  refine lv_iconst (v := 2) hx hb dL_law_1252 (by decide) ?_
  refine lv_iadd hx hb dL_law_1253 ?_
  refine va_sld hx hb hX hbl hbA hS (law_j ex4 hi hL 2 (by decide)) dL_law_1254 ?_
  refine lv_i2l (v := (((xs (x4 + 2).toNatClampNeg) : Int32).toInt64)) hx hb dL_law_1255 rfl ?_
  refine lv_ldc2 hx hb hown (hw _ bw1096) dL_law_1256 ?_
  refine lv_land hx hb dL_law_1259 ?_
  refine lv_lor hx hb dL_law_1260 ?_
  refine lv_aload_n hx hb dL_law_1261 rfl (lv_at hl 0 rfl) ?_
  refine lv_iload hx hb dL_law_1262 (lv_at hl 4 rfl) ?_
  refine lv_iconst (v := 3) hx hb dL_law_1264 (by decide) ?_
  refine lv_iadd hx hb dL_law_1265 ?_
  refine va_sld hx hb hX hbl hbA hS (law_j ex4 hi hL 3 (by decide)) dL_law_1266 ?_
  refine lv_aload_n hx hb dL_law_1267 rfl (lv_at hl 3 rfl) ?_
  rcases O g a gm am (((((xs (x4 + 1).toNatClampNeg) : Int32).toInt64) <<< ((32 : Int32).toInt64 &&& 63)) ||| ((((xs (x4 + 2).toNatClampNeg) : Int32).toInt64) &&& 4294967295)) (xs (x4 + 3).toNatClampNeg) hI with ⟨z, zm, h1, h2, h3, h4, hI9⟩ | ⟨z, zm, h1, h5, h2, h3, hI9⟩ | ⟨z, zm, h1, h5, h2, h3, hI9⟩
  · refine lcW (As := [.ref (E.2.1 0), .long (((((xs (x4 + 1).toNatClampNeg) : Int32).toInt64) <<< ((32 : Int32).toInt64 &&& 63)) ||| ((((xs (x4 + 2).toNatClampNeg) : Int32).toInt64) &&& 4294967295)), .int (xs (x4 + 3).toNatClampNeg), .ref bo]) (rest := []) (k := 4) C0 (c_L_type_r l hstk E g a (((((xs (x4 + 1).toNatClampNeg) : Int32).toInt64) <<< ((32 : Int32).toInt64 &&& 63)) ||| ((((xs (x4 + 2).toNatClampNeg) : Int32).toInt64) &&& 4294967295)) (xs (x4 + 3).toNatClampNeg) bo fo h1) bw1070 bw1203 bw1103 bw1204 hd_L_type ⟨Nat.le_of_ble_eq_true rfl, Nat.le_of_ble_eq_true rfl⟩ hP (va_D.eqv hD rfl) hS rfl hl.1 rfl (Nat.le_of_ble_eq_true rfl) dL_law_1268 ⟨hcs.1, hcs.2⟩ (fun H locs hP hS => ?_)
    refine lv_istore (lv' := [(5, .int 0), (0, .ref b), (1, .ref (E.2.1 0)), (2, .ref ((Eq_ E qm).2.1 0)), (3, .ref bo), (4, .int x4)]) hx hb dL_law_1271 hl (by decide) rfl (fun ls hl => ?_)
    refine lv_aload_n hx hb dL_law_1273 rfl (lv_at hl 3 rfl) ?_
    refine lv_aload_n hx hb dL_law_1274 rfl (lv_at hl 1 rfl) ?_
    refine lv_iload hx hb dL_law_1275 (lv_at hl 5 rfl) ?_
    refine lv_iconst (v := 1) hx hb dL_law_1277 (by decide) ?_
    refine lv_iadd hx hb dL_law_1278 ?_
    refine va_sld hx hb hX hbl hbA hS (law_j ex4 hi hL 1 (by decide)) dL_law_1279 ?_
    refine lv_i2l (v := (((xs (x4 + 1).toNatClampNeg) : Int32).toInt64)) hx hb dL_law_1280 rfl ?_
    refine lv_bipush (v := 32) hx hb dL_law_1281 (by decide) ?_
    refine lv_lshl (v := ((((xs (x4 + 1).toNatClampNeg) : Int32).toInt64) <<< ((32 : Int32).toInt64 &&& 63))) hx hb dL_law_1283 rfl ?_
    refine lv_aload_n hx hb dL_law_1284 rfl (lv_at hl 1 rfl) ?_
    refine lv_iload hx hb dL_law_1285 (lv_at hl 5 rfl) ?_
    refine lv_iconst (v := 2) hx hb dL_law_1287 (by decide) ?_
    refine lv_iadd hx hb dL_law_1288 ?_
    refine va_sld hx hb hX hbl hbA hS (law_j ex4 hi hL 2 (by decide)) dL_law_1289 ?_
    refine lv_i2l (v := (((xs (x4 + 2).toNatClampNeg) : Int32).toInt64)) hx hb dL_law_1290 rfl ?_
    refine lv_ldc2 hx hb hown (hw _ bw1096) dL_law_1291 ?_
    refine lv_land hx hb dL_law_1294 ?_
    refine lv_lor hx hb dL_law_1295 ?_
    refine lv_aload_n hx hb dL_law_1296 rfl (lv_at hl 1 rfl) ?_
    refine lv_iload hx hb dL_law_1297 (lv_at hl 5 rfl) ?_
    refine lv_iconst (v := 3) hx hb dL_law_1299 (by decide) ?_
    refine lv_iadd hx hb dL_law_1300 ?_
    refine va_sld hx hb hX hbl hbA hS (law_j ex4 hi hL 3 (by decide)) dL_law_1301 ?_
    refine lcM (As := [.long (((((xs (x4 + 1).toNatClampNeg) : Int32).toInt64) <<< ((32 : Int32).toInt64 &&& 63)) ||| ((((xs (x4 + 2).toNatClampNeg) : Int32).toInt64) &&& 4294967295)), .int (xs (x4 + 3).toNatClampNeg)]) (rest := []) (k := 2) C0 (c_X12_type l (Eq_ E qm) gm am (((((xs (x4 + 1).toNatClampNeg) : Int32).toInt64) <<< ((32 : Int32).toInt64 &&& 63)) ||| ((((xs (x4 + 2).toNatClampNeg) : Int32).toInt64) &&& 4294967295)) (xs (x4 + 3).toNatClampNeg) h2) bw918 bw1205 bw778 bw1206 bw1207 hd_X12_type ⟨Nat.le_of_ble_eq_true rfl, Nat.le_of_ble_eq_true rfl⟩ hP (va_D.eqv hD rfl) hS rfl hl.1 rfl (Nat.le_of_ble_eq_true rfl) dL_law_1302 ⟨by show _ ≤ 601024; omega, by show _ ≤ 7293033; omega⟩ (fun H locs hP hS => ?_)
    refine lv_istore (lv' := [(6, .int zm.1), (5, .int 0), (0, .ref b), (1, .ref (E.2.1 0)), (2, .ref ((Eq_ E qm).2.1 0)), (3, .ref bo), (4, .int x4)]) hx hb dL_law_1305 hl (by decide) rfl (fun ls hl => ?_)
    refine lv_aload_n hx hb dL_law_1307 rfl (lv_at hl 4 rfl) ?_
    refine lcM (As := []) (rest := []) (k := 0) C0 (c_X12_thrown l (Eq_ E qm) zm.2.1 zm.2.2) bw770 bw1107 bw778 bw1108 bw1109 hd_X12_thrown ⟨Nat.le_of_ble_eq_true rfl, Nat.le_of_ble_eq_true rfl⟩ hP (va_D.eqv hD rfl) hS rfl hl.1 rfl (Nat.le_of_ble_eq_true rfl) dL_law_1308 ⟨by show _ ≤ 601024; omega, by show _ ≤ 7293033; omega⟩ (fun H locs hP hS => ?_)
    refine lv_iload hx hb dL_law_1311 (lv_at hl 1 rfl) ?_
    refine lv_icmp_eq (tgt := 1318) hx hb dL_law_1313 (by decide) (fun _ => ?_) (fun c9 => absurd h3 c9)
    refine lv_iload hx hb dL_law_1318 (lv_at hl 1 rfl) ?_
    refine lv_if_ne (tgt := 1335) hx hb dL_law_1320 (by decide) (fun c9 => absurd rfl c9) (fun _ => ?_)
    refine lv_aload_n hx hb dL_law_1323 rfl (lv_at hl 5 rfl) ?_
    refine lv_iconst (v := 0) hx hb dL_law_1324 (by decide) ?_
    refine va_lald hx hb hK hP 54 3 go_L rfl (inB_in (by decide)) dL_law_1325 ?_
    refine lv_iload hx hb dL_law_1326 (lv_at hl 0 rfl) ?_
    refine lv_i2l (v := ((zm.1 : Int32).toInt64)) hx hb dL_law_1328 rfl ?_
    refine W.lcmp hx hb dL_law_1329 ?_
    refine lv_if_eq (tgt := 1335) hx hb dL_law_1330 (by decide) (fun _ => ?_) (fun c9 => absurd (lg_self (congrArg Int32.toInt64 h4)) c9)
    refine lv_goto (tgt := 1719) hx hb dL_law_1335 (by decide) ?_
    refine W.widen (k := CE + 2) (n := SE + 54) (by omega) (by omega) ?_
    exact hk z.2.1 z.2.2 zm.2.1 zm.2.2 (vp_updL fo 0 ((z.1 : Int32).toInt64)) H locs ls hI9 hP hS (lv_sub hl [2, 3, 4, 5, 6] rfl)
  · refine lcW (As := [.ref (E.2.1 0), .long (((((xs (x4 + 1).toNatClampNeg) : Int32).toInt64) <<< ((32 : Int32).toInt64 &&& 63)) ||| ((((xs (x4 + 2).toNatClampNeg) : Int32).toInt64) &&& 4294967295)), .int (xs (x4 + 3).toNatClampNeg), .ref bo]) (rest := []) (k := 4) C0 (c_L_type_t1 l hstk E g a (((((xs (x4 + 1).toNatClampNeg) : Int32).toInt64) <<< ((32 : Int32).toInt64 &&& 63)) ||| ((((xs (x4 + 2).toNatClampNeg) : Int32).toInt64) &&& 4294967295)) (xs (x4 + 3).toNatClampNeg) bo fo h1 h5) bw1070 bw1203 bw1103 bw1204 hd_L_type ⟨Nat.le_of_ble_eq_true rfl, Nat.le_of_ble_eq_true rfl⟩ hP (va_D.eqv hD rfl) hS rfl hl.1 rfl (Nat.le_of_ble_eq_true rfl) dL_law_1268 ⟨hcs.1, hcs.2⟩ (fun H locs hP hS => ?_)
    refine lv_istore (lv' := [(5, .int 1), (0, .ref b), (1, .ref (E.2.1 0)), (2, .ref ((Eq_ E qm).2.1 0)), (3, .ref bo), (4, .int x4)]) hx hb dL_law_1271 hl (by decide) rfl (fun ls hl => ?_)
    refine lv_aload_n hx hb dL_law_1273 rfl (lv_at hl 3 rfl) ?_
    refine lv_aload_n hx hb dL_law_1274 rfl (lv_at hl 1 rfl) ?_
    refine lv_iload hx hb dL_law_1275 (lv_at hl 5 rfl) ?_
    refine lv_iconst (v := 1) hx hb dL_law_1277 (by decide) ?_
    refine lv_iadd hx hb dL_law_1278 ?_
    refine va_sld hx hb hX hbl hbA hS (law_j ex4 hi hL 1 (by decide)) dL_law_1279 ?_
    refine lv_i2l (v := (((xs (x4 + 1).toNatClampNeg) : Int32).toInt64)) hx hb dL_law_1280 rfl ?_
    refine lv_bipush (v := 32) hx hb dL_law_1281 (by decide) ?_
    refine lv_lshl (v := ((((xs (x4 + 1).toNatClampNeg) : Int32).toInt64) <<< ((32 : Int32).toInt64 &&& 63))) hx hb dL_law_1283 rfl ?_
    refine lv_aload_n hx hb dL_law_1284 rfl (lv_at hl 1 rfl) ?_
    refine lv_iload hx hb dL_law_1285 (lv_at hl 5 rfl) ?_
    refine lv_iconst (v := 2) hx hb dL_law_1287 (by decide) ?_
    refine lv_iadd hx hb dL_law_1288 ?_
    refine va_sld hx hb hX hbl hbA hS (law_j ex4 hi hL 2 (by decide)) dL_law_1289 ?_
    refine lv_i2l (v := (((xs (x4 + 2).toNatClampNeg) : Int32).toInt64)) hx hb dL_law_1290 rfl ?_
    refine lv_ldc2 hx hb hown (hw _ bw1096) dL_law_1291 ?_
    refine lv_land hx hb dL_law_1294 ?_
    refine lv_lor hx hb dL_law_1295 ?_
    refine lv_aload_n hx hb dL_law_1296 rfl (lv_at hl 1 rfl) ?_
    refine lv_iload hx hb dL_law_1297 (lv_at hl 5 rfl) ?_
    refine lv_iconst (v := 3) hx hb dL_law_1299 (by decide) ?_
    refine lv_iadd hx hb dL_law_1300 ?_
    refine va_sld hx hb hX hbl hbA hS (law_j ex4 hi hL 3 (by decide)) dL_law_1301 ?_
    refine lcM (As := [.long (((((xs (x4 + 1).toNatClampNeg) : Int32).toInt64) <<< ((32 : Int32).toInt64 &&& 63)) ||| ((((xs (x4 + 2).toNatClampNeg) : Int32).toInt64) &&& 4294967295)), .int (xs (x4 + 3).toNatClampNeg)]) (rest := []) (k := 2) C0 (c_X12_type l (Eq_ E qm) gm am (((((xs (x4 + 1).toNatClampNeg) : Int32).toInt64) <<< ((32 : Int32).toInt64 &&& 63)) ||| ((((xs (x4 + 2).toNatClampNeg) : Int32).toInt64) &&& 4294967295)) (xs (x4 + 3).toNatClampNeg) h2) bw918 bw1205 bw778 bw1206 bw1207 hd_X12_type ⟨Nat.le_of_ble_eq_true rfl, Nat.le_of_ble_eq_true rfl⟩ hP (va_D.eqv hD rfl) hS rfl hl.1 rfl (Nat.le_of_ble_eq_true rfl) dL_law_1302 ⟨by show _ ≤ 601024; omega, by show _ ≤ 7293033; omega⟩ (fun H locs hP hS => ?_)
    refine lv_istore (lv' := [(6, .int zm.1), (5, .int 1), (0, .ref b), (1, .ref (E.2.1 0)), (2, .ref ((Eq_ E qm).2.1 0)), (3, .ref bo), (4, .int x4)]) hx hb dL_law_1305 hl (by decide) rfl (fun ls hl => ?_)
    refine lv_aload_n hx hb dL_law_1307 rfl (lv_at hl 4 rfl) ?_
    refine lcM (As := []) (rest := []) (k := 0) C0 (c_X12_thrown l (Eq_ E qm) zm.2.1 zm.2.2) bw770 bw1107 bw778 bw1108 bw1109 hd_X12_thrown ⟨Nat.le_of_ble_eq_true rfl, Nat.le_of_ble_eq_true rfl⟩ hP (va_D.eqv hD rfl) hS rfl hl.1 rfl (Nat.le_of_ble_eq_true rfl) dL_law_1308 ⟨by show _ ≤ 601024; omega, by show _ ≤ 7293033; omega⟩ (fun H locs hP hS => ?_)
    refine lv_iload hx hb dL_law_1311 (lv_at hl 1 rfl) ?_
    refine lv_icmp_eq (tgt := 1318) hx hb dL_law_1313 (by decide) (fun _ => ?_) (fun c9 => absurd h3 c9)
    refine lv_iload hx hb dL_law_1318 (lv_at hl 1 rfl) ?_
    refine lv_if_ne (tgt := 1335) hx hb dL_law_1320 (by decide) (fun _ => ?_) (fun c9 => absurd c9 (by decide))
    refine lv_goto (tgt := 1719) hx hb dL_law_1335 (by decide) ?_
    refine W.widen (k := CE + 2) (n := SE + 54) (by omega) (by omega) ?_
    exact hk z.2.1 z.2.2 zm.2.1 zm.2.2 fo H locs ls hI9 hP hS (lv_sub hl [2, 3, 4, 5, 6] rfl)
  · refine lcW (As := [.ref (E.2.1 0), .long (((((xs (x4 + 1).toNatClampNeg) : Int32).toInt64) <<< ((32 : Int32).toInt64 &&& 63)) ||| ((((xs (x4 + 2).toNatClampNeg) : Int32).toInt64) &&& 4294967295)), .int (xs (x4 + 3).toNatClampNeg), .ref bo]) (rest := []) (k := 4) C0 (c_L_type_t2 l hstk E g a (((((xs (x4 + 1).toNatClampNeg) : Int32).toInt64) <<< ((32 : Int32).toInt64 &&& 63)) ||| ((((xs (x4 + 2).toNatClampNeg) : Int32).toInt64) &&& 4294967295)) (xs (x4 + 3).toNatClampNeg) bo fo h1 h5) bw1070 bw1203 bw1103 bw1204 hd_L_type ⟨Nat.le_of_ble_eq_true rfl, Nat.le_of_ble_eq_true rfl⟩ hP (va_D.eqv hD rfl) hS rfl hl.1 rfl (Nat.le_of_ble_eq_true rfl) dL_law_1268 ⟨hcs.1, hcs.2⟩ (fun H locs hP hS => ?_)
    refine lv_istore (lv' := [(5, .int 2), (0, .ref b), (1, .ref (E.2.1 0)), (2, .ref ((Eq_ E qm).2.1 0)), (3, .ref bo), (4, .int x4)]) hx hb dL_law_1271 hl (by decide) rfl (fun ls hl => ?_)
    refine lv_aload_n hx hb dL_law_1273 rfl (lv_at hl 3 rfl) ?_
    refine lv_aload_n hx hb dL_law_1274 rfl (lv_at hl 1 rfl) ?_
    refine lv_iload hx hb dL_law_1275 (lv_at hl 5 rfl) ?_
    refine lv_iconst (v := 1) hx hb dL_law_1277 (by decide) ?_
    refine lv_iadd hx hb dL_law_1278 ?_
    refine va_sld hx hb hX hbl hbA hS (law_j ex4 hi hL 1 (by decide)) dL_law_1279 ?_
    refine lv_i2l (v := (((xs (x4 + 1).toNatClampNeg) : Int32).toInt64)) hx hb dL_law_1280 rfl ?_
    refine lv_bipush (v := 32) hx hb dL_law_1281 (by decide) ?_
    refine lv_lshl (v := ((((xs (x4 + 1).toNatClampNeg) : Int32).toInt64) <<< ((32 : Int32).toInt64 &&& 63))) hx hb dL_law_1283 rfl ?_
    refine lv_aload_n hx hb dL_law_1284 rfl (lv_at hl 1 rfl) ?_
    refine lv_iload hx hb dL_law_1285 (lv_at hl 5 rfl) ?_
    refine lv_iconst (v := 2) hx hb dL_law_1287 (by decide) ?_
    refine lv_iadd hx hb dL_law_1288 ?_
    refine va_sld hx hb hX hbl hbA hS (law_j ex4 hi hL 2 (by decide)) dL_law_1289 ?_
    refine lv_i2l (v := (((xs (x4 + 2).toNatClampNeg) : Int32).toInt64)) hx hb dL_law_1290 rfl ?_
    refine lv_ldc2 hx hb hown (hw _ bw1096) dL_law_1291 ?_
    refine lv_land hx hb dL_law_1294 ?_
    refine lv_lor hx hb dL_law_1295 ?_
    refine lv_aload_n hx hb dL_law_1296 rfl (lv_at hl 1 rfl) ?_
    refine lv_iload hx hb dL_law_1297 (lv_at hl 5 rfl) ?_
    refine lv_iconst (v := 3) hx hb dL_law_1299 (by decide) ?_
    refine lv_iadd hx hb dL_law_1300 ?_
    refine va_sld hx hb hX hbl hbA hS (law_j ex4 hi hL 3 (by decide)) dL_law_1301 ?_
    refine lcM (As := [.long (((((xs (x4 + 1).toNatClampNeg) : Int32).toInt64) <<< ((32 : Int32).toInt64 &&& 63)) ||| ((((xs (x4 + 2).toNatClampNeg) : Int32).toInt64) &&& 4294967295)), .int (xs (x4 + 3).toNatClampNeg)]) (rest := []) (k := 2) C0 (c_X12_type l (Eq_ E qm) gm am (((((xs (x4 + 1).toNatClampNeg) : Int32).toInt64) <<< ((32 : Int32).toInt64 &&& 63)) ||| ((((xs (x4 + 2).toNatClampNeg) : Int32).toInt64) &&& 4294967295)) (xs (x4 + 3).toNatClampNeg) h2) bw918 bw1205 bw778 bw1206 bw1207 hd_X12_type ⟨Nat.le_of_ble_eq_true rfl, Nat.le_of_ble_eq_true rfl⟩ hP (va_D.eqv hD rfl) hS rfl hl.1 rfl (Nat.le_of_ble_eq_true rfl) dL_law_1302 ⟨by show _ ≤ 601024; omega, by show _ ≤ 7293033; omega⟩ (fun H locs hP hS => ?_)
    refine lv_istore (lv' := [(6, .int zm.1), (5, .int 2), (0, .ref b), (1, .ref (E.2.1 0)), (2, .ref ((Eq_ E qm).2.1 0)), (3, .ref bo), (4, .int x4)]) hx hb dL_law_1305 hl (by decide) rfl (fun ls hl => ?_)
    refine lv_aload_n hx hb dL_law_1307 rfl (lv_at hl 4 rfl) ?_
    refine lcM (As := []) (rest := []) (k := 0) C0 (c_X12_thrown l (Eq_ E qm) zm.2.1 zm.2.2) bw770 bw1107 bw778 bw1108 bw1109 hd_X12_thrown ⟨Nat.le_of_ble_eq_true rfl, Nat.le_of_ble_eq_true rfl⟩ hP (va_D.eqv hD rfl) hS rfl hl.1 rfl (Nat.le_of_ble_eq_true rfl) dL_law_1308 ⟨by show _ ≤ 601024; omega, by show _ ≤ 7293033; omega⟩ (fun H locs hP hS => ?_)
    refine lv_iload hx hb dL_law_1311 (lv_at hl 1 rfl) ?_
    refine lv_icmp_eq (tgt := 1318) hx hb dL_law_1313 (by decide) (fun _ => ?_) (fun c9 => absurd h3 c9)
    refine lv_iload hx hb dL_law_1318 (lv_at hl 1 rfl) ?_
    refine lv_if_ne (tgt := 1335) hx hb dL_law_1320 (by decide) (fun _ => ?_) (fun c9 => absurd c9 (by decide))
    refine lv_goto (tgt := 1719) hx hb dL_law_1335 (by decide) ?_
    refine W.widen (k := CE + 2) (n := SE + 54) (by omega) (by omega) ?_
    exact hk z.2.1 z.2.2 zm.2.1 zm.2.2 fo H locs ls hI9 hP hS (lv_sub hl [2, 3, 4, 5, 6] rfl)
set_option maxRecDepth 100000 in
set_option maxHeartbeats 40000000 in
theorem lc_wipe {p : Program} {l : Launch} {e : Env} {s : State} {m : MethodId} {below : List Frame} {meth : Method} {c : Code} {b L : Nat} {xs : Nat → Int32} {E : xE} (C0 : lwC p l s m c b L xs E) {I : xG → xA → xG → xA → Prop} (O : ob_wipe I) {g : xG} {a : xA} {gm : xG} {am : xA} (hI : I g a gm am) {i : Nat} {x4 : Int32} (ex4 : x4 = nI i) (hi : i + 5 ≤ L) (hL : L ≤ 2560) {bo : Nat} {fo : Nat → Int64} {qm : Nat → Nat} {H : Heap} {locs : List Loc} {CE SE : Nat} (hCE : CE ≤ 600000) (hSE : SE ≤ 7000000) {Q : State → Prop} (hP : va_P E.1 vwCl (wL E qm g a bo fo gm am) H) (hD : va_D (A0 s) (wL E qm g a bo fo gm am)) (hS : va_S (A0 s) s.heap H locs) {ls : Array Slot} (hl : lv_has ls 8 [(0, .ref b), (1, .ref (E.2.1 0)), (2, .ref ((Eq_ E qm).2.1 0)), (3, .ref bo), (4, .int x4)])
    (hk : ∀ (g : xG) (a : xA) (gm : xG) (am : xA) (fo : Nat → Int64) (H : Heap) (locs : List Loc) (ls : Array Slot), I g a gm am → va_P E.1 vwCl (wL E qm g a bo fo gm am) H → va_S (A0 s) s.heap H locs → lv_has ls 8 [(0, .ref b), (1, .ref (E.2.1 0)), (2, .ref ((Eq_ E qm).2.1 0)), (3, .ref bo), (4, .int x4)] → W p l e room_1 s m #[Value.ref b] below meth c H locs (CE + 2) (SE + 54) Q (F0 m 1719 ls [])) : W p l e room_1 s m #[Value.ref b] below meth c H locs CE SE Q (F0 m 1338 ls []) := by
  obtain ⟨hx, hb, hml, hown, hw, hK, hN, hT, hst, hz, hnc, hX, hbl, hstk⟩ := id C0
  have hbA : ¬ (A0 s) b := Nat.not_le.mpr hbl
  have hcs : CE + 1 ≤ room_1.cells ∧ SE + 6 ≤ room_1.slots := ⟨by show _ ≤ 601024; omega, by show _ ≤ 7293033; omega⟩
  refine lv_aload_n hx hb dL_law_1338 rfl (lv_at hl 1 rfl) ?_
  obtain ⟨z, zm, h1, h2, h4, hI9⟩ := O g a gm am hI
  refine lcX (As := []) (rest := []) (k := 0) C0 (c_X11_wipe l E g a) bw712 bw1208 bw13 bw1209 bw1210 hd_X11_wipe ⟨Nat.le_of_ble_eq_true rfl, Nat.le_of_ble_eq_true rfl⟩ hP (va_D.eqv hD rfl) hS rfl hl.1 rfl (Nat.le_of_ble_eq_true rfl) dL_law_1339 ⟨by show _ ≤ 601024; omega, by show _ ≤ 7293033; omega⟩ (fun H locs hP hS => ?_)
  rw [h1] at hP ⊢
  refine lv_aload_n hx hb dL_law_1342 rfl (lv_at hl 2 rfl) ?_
  refine lcM (As := []) (rest := [.int z.1]) (k := 0) C0 (c_X12_wipe l (Eq_ E qm) gm am) bw923 bw1211 bw778 bw1212 bw1213 hd_X12_wipe ⟨Nat.le_of_ble_eq_true rfl, Nat.le_of_ble_eq_true rfl⟩ hP (va_D.eqv hD rfl) hS rfl hl.1 rfl (Nat.le_of_ble_eq_true rfl) dL_law_1343 ⟨by show _ ≤ 601024; omega, by show _ ≤ 7293033; omega⟩ (fun H locs hP hS => ?_)
  rw [h2] at hP ⊢
  refine lv_icmp_eq (tgt := 1719) hx hb dL_law_1346 (by decide) (fun _ => ?_) (fun c9 => absurd h4 c9)
  refine W.widen (k := CE + 2) (n := SE + 54) (by omega) (by omega) ?_
  exact hk z.2 a zm.2 am fo H locs ls hI9 hP hS (lv_sub hl [0, 1, 2, 3, 4] rfl)
set_option maxRecDepth 100000 in
set_option maxHeartbeats 40000000 in
theorem lc_fault {p : Program} {l : Launch} {e : Env} {s : State} {m : MethodId} {below : List Frame} {meth : Method} {c : Code} {b L : Nat} {xs : Nat → Int32} {E : xE} (C0 : lwC p l s m c b L xs E) {I : xG → xA → xG → xA → Prop} (O : ob_fault I) {g : xG} {a : xA} {gm : xG} {am : xA} (hI : I g a gm am) {i : Nat} {x4 : Int32} (ex4 : x4 = nI i) (hi : i + 5 ≤ L) (hL : L ≤ 2560) {bo : Nat} {fo : Nat → Int64} {qm : Nat → Nat} {H : Heap} {locs : List Loc} {CE SE : Nat} (hCE : CE ≤ 600000) (hSE : SE ≤ 7000000) {Q : State → Prop} (hP : va_P E.1 vwCl (wL E qm g a bo fo gm am) H) (hD : va_D (A0 s) (wL E qm g a bo fo gm am)) (hS : va_S (A0 s) s.heap H locs) {ls : Array Slot} (hl : lv_has ls 8 [(0, .ref b), (1, .ref (E.2.1 0)), (2, .ref ((Eq_ E qm).2.1 0)), (3, .ref bo), (4, .int x4)])
    (hk : ∀ (g : xG) (a : xA) (gm : xG) (am : xA) (fo : Nat → Int64) (H : Heap) (locs : List Loc) (ls : Array Slot), I g a gm am → va_P E.1 vwCl (wL E qm g a bo fo gm am) H → va_S (A0 s) s.heap H locs → lv_has ls 8 [(0, .ref b), (1, .ref (E.2.1 0)), (2, .ref ((Eq_ E qm).2.1 0)), (3, .ref bo), (4, .int x4)] → W p l e room_1 s m #[Value.ref b] below meth c H locs (CE + 2) (SE + 54) Q (F0 m 1719 ls [])) : W p l e room_1 s m #[Value.ref b] below meth c H locs CE SE Q (F0 m 1351 ls []) := by
  obtain ⟨hx, hb, hml, hown, hw, hK, hN, hT, hst, hz, hnc, hX, hbl, hstk⟩ := id C0
  have hbA : ¬ (A0 s) b := Nat.not_le.mpr hbl
  have hcs : CE + 1 ≤ room_1.cells ∧ SE + 6 ≤ room_1.slots := ⟨by show _ ≤ 601024; omega, by show _ ≤ 7293033; omega⟩
  refine lv_aload_n hx hb dL_law_1351 rfl (lv_at hl 1 rfl) ?_
  obtain ⟨z, zm, h1, h2, h4, hI9⟩ := O g a gm am hI
  refine lcX (As := []) (rest := []) (k := 0) C0 (c_X11_fault l E g a h1) bw716 bw1214 bw13 bw1215 bw1216 hd_X11_fault ⟨Nat.le_of_ble_eq_true rfl, Nat.le_of_ble_eq_true rfl⟩ hP (va_D.eqv hD rfl) hS rfl hl.1 rfl (Nat.le_of_ble_eq_true rfl) dL_law_1352 ⟨by show _ ≤ 601024; omega, by show _ ≤ 7293033; omega⟩ (fun H locs hP hS => ?_)
  refine lv_aload_n hx hb dL_law_1355 rfl (lv_at hl 2 rfl) ?_
  refine lcM (As := []) (rest := [.int z.1]) (k := 0) C0 (c_X12_fault l (Eq_ E qm) gm am h2) bw946 bw1217 bw778 bw1218 bw1219 hd_X12_fault ⟨Nat.le_of_ble_eq_true rfl, Nat.le_of_ble_eq_true rfl⟩ hP (va_D.eqv hD rfl) hS rfl hl.1 rfl (Nat.le_of_ble_eq_true rfl) dL_law_1356 ⟨by show _ ≤ 601024; omega, by show _ ≤ 7293033; omega⟩ (fun H locs hP hS => ?_)
  refine lv_icmp_eq (tgt := 1719) hx hb dL_law_1359 (by decide) (fun _ => ?_) (fun c9 => absurd h4 c9)
  refine W.widen (k := CE + 2) (n := SE + 54) (by omega) (by omega) ?_
  exact hk z.2.1 z.2.2 zm.2.1 zm.2.2 fo H locs ls hI9 hP hS (lv_sub hl [0, 1, 2, 3, 4] rfl)
set_option maxRecDepth 100000 in
set_option maxHeartbeats 40000000 in
theorem lc_define {p : Program} {l : Launch} {e : Env} {s : State} {m : MethodId} {below : List Frame} {meth : Method} {c : Code} {b L : Nat} {xs : Nat → Int32} {E : xE} (C0 : lwC p l s m c b L xs E) {I : xG → xA → xG → xA → Prop} (O : ob_define I) {g : xG} {a : xA} {gm : xG} {am : xA} (hI : I g a gm am) {i : Nat} {x4 : Int32} (ex4 : x4 = nI i) (hi : i + 5 ≤ L) (hL : L ≤ 2560) {bo : Nat} {fo : Nat → Int64} {qm : Nat → Nat} {H : Heap} {locs : List Loc} {CE SE : Nat} (hCE : CE ≤ 600000) (hSE : SE ≤ 7000000) {Q : State → Prop} (hP : va_P E.1 vwCl (wL E qm g a bo fo gm am) H) (hD : va_D (A0 s) (wL E qm g a bo fo gm am)) (hS : va_S (A0 s) s.heap H locs) {ls : Array Slot} (hl : lv_has ls 8 [(0, .ref b), (1, .ref (E.2.1 0)), (2, .ref ((Eq_ E qm).2.1 0)), (3, .ref bo), (4, .int x4)])
    (hk : ∀ (g : xG) (a : xA) (gm : xG) (am : xA) (fo : Nat → Int64) (H : Heap) (locs : List Loc) (ls : Array Slot), I g a gm am → va_P E.1 vwCl (wL E qm g a bo fo gm am) H → va_S (A0 s) s.heap H locs → lv_has ls 8 [(0, .ref b), (1, .ref (E.2.1 0)), (2, .ref ((Eq_ E qm).2.1 0)), (3, .ref bo), (4, .int x4)] → W p l e room_1 s m #[Value.ref b] below meth c H locs (CE + 2) (SE + 54) Q (F0 m 1719 ls [])) : W p l e room_1 s m #[Value.ref b] below meth c H locs CE SE Q (F0 m 1364 ls []) := by
  obtain ⟨hx, hb, hml, hown, hw, hK, hN, hT, hst, hz, hnc, hX, hbl, hstk⟩ := id C0
  have hbA : ¬ (A0 s) b := Nat.not_le.mpr hbl
  have hcs : CE + 1 ≤ room_1.cells ∧ SE + 6 ≤ room_1.slots := ⟨by show _ ≤ 601024; omega, by show _ ≤ 7293033; omega⟩
  refine lv_aload_n hx hb dL_law_1364 rfl (lv_at hl 1 rfl) ?_
  refine lv_aload_n hx hb dL_law_1365 rfl (lv_at hl 3 rfl) ?_
  rcases O g a gm am hI with ⟨z, zm, h1, h2, h3, h4, hI9⟩ | ⟨z, zm, h1, h5, h2, h3, hI9⟩ | ⟨z, zm, h1, h5, h2, h3, hI9⟩
  · refine lcW (As := [.ref (E.2.1 0), .ref bo]) (rest := []) (k := 2) C0 (c_L_define_r l hstk E g a bo fo h1) bw1074 bw1220 bw1103 bw1221 hd_L_define ⟨Nat.le_of_ble_eq_true rfl, Nat.le_of_ble_eq_true rfl⟩ hP (va_D.eqv hD rfl) hS rfl hl.1 rfl (Nat.le_of_ble_eq_true rfl) dL_law_1366 ⟨hcs.1, hcs.2⟩ (fun H locs hP hS => ?_)
    refine lv_istore (lv' := [(5, .int 0), (0, .ref b), (1, .ref (E.2.1 0)), (2, .ref ((Eq_ E qm).2.1 0)), (3, .ref bo), (4, .int x4)]) hx hb dL_law_1369 hl (by decide) rfl (fun ls hl => ?_)
    refine lv_aload_n hx hb dL_law_1371 rfl (lv_at hl 3 rfl) ?_
    refine lcM (As := []) (rest := []) (k := 0) C0 (c_X12_define l (Eq_ E qm) gm am h2) bw951 bw1222 bw778 bw1223 bw1224 hd_X12_define ⟨Nat.le_of_ble_eq_true rfl, Nat.le_of_ble_eq_true rfl⟩ hP (va_D.eqv hD rfl) hS rfl hl.1 rfl (Nat.le_of_ble_eq_true rfl) dL_law_1372 ⟨by show _ ≤ 601024; omega, by show _ ≤ 7293033; omega⟩ (fun H locs hP hS => ?_)
    refine lv_istore (lv' := [(6, .int zm.1), (5, .int 0), (0, .ref b), (1, .ref (E.2.1 0)), (2, .ref ((Eq_ E qm).2.1 0)), (3, .ref bo), (4, .int x4)]) hx hb dL_law_1375 hl (by decide) rfl (fun ls hl => ?_)
    refine lv_aload_n hx hb dL_law_1377 rfl (lv_at hl 4 rfl) ?_
    refine lcM (As := []) (rest := []) (k := 0) C0 (c_X12_thrown l (Eq_ E qm) zm.2.1 zm.2.2) bw770 bw1107 bw778 bw1108 bw1109 hd_X12_thrown ⟨Nat.le_of_ble_eq_true rfl, Nat.le_of_ble_eq_true rfl⟩ hP (va_D.eqv hD rfl) hS rfl hl.1 rfl (Nat.le_of_ble_eq_true rfl) dL_law_1378 ⟨by show _ ≤ 601024; omega, by show _ ≤ 7293033; omega⟩ (fun H locs hP hS => ?_)
    refine lv_iload hx hb dL_law_1381 (lv_at hl 1 rfl) ?_
    refine lv_icmp_eq (tgt := 1388) hx hb dL_law_1383 (by decide) (fun _ => ?_) (fun c9 => absurd h3 c9)
    refine lv_iload hx hb dL_law_1388 (lv_at hl 1 rfl) ?_
    refine lv_if_ne (tgt := 1405) hx hb dL_law_1390 (by decide) (fun c9 => absurd rfl c9) (fun _ => ?_)
    refine lv_aload_n hx hb dL_law_1393 rfl (lv_at hl 5 rfl) ?_
    refine lv_iconst (v := 0) hx hb dL_law_1394 (by decide) ?_
    refine va_lald hx hb hK hP 54 3 go_L rfl (inB_in (by decide)) dL_law_1395 ?_
    refine lv_iload hx hb dL_law_1396 (lv_at hl 0 rfl) ?_
    refine lv_i2l (v := ((zm.1 : Int32).toInt64)) hx hb dL_law_1398 rfl ?_
    refine W.lcmp hx hb dL_law_1399 ?_
    refine lv_if_eq (tgt := 1405) hx hb dL_law_1400 (by decide) (fun _ => ?_) (fun c9 => absurd (lg_self (congrArg Int32.toInt64 h4)) c9)
    refine lv_goto (tgt := 1719) hx hb dL_law_1405 (by decide) ?_
    refine W.widen (k := CE + 2) (n := SE + 54) (by omega) (by omega) ?_
    exact hk z.2.1 z.2.2 zm.2.1 zm.2.2 (vp_updL fo 0 ((z.1 : Int32).toInt64)) H locs ls hI9 hP hS (lv_sub hl [2, 3, 4, 5, 6] rfl)
  · refine lcW (As := [.ref (E.2.1 0), .ref bo]) (rest := []) (k := 2) C0 (c_L_define_t1 l hstk E g a bo fo h1 h5) bw1074 bw1220 bw1103 bw1221 hd_L_define ⟨Nat.le_of_ble_eq_true rfl, Nat.le_of_ble_eq_true rfl⟩ hP (va_D.eqv hD rfl) hS rfl hl.1 rfl (Nat.le_of_ble_eq_true rfl) dL_law_1366 ⟨hcs.1, hcs.2⟩ (fun H locs hP hS => ?_)
    refine lv_istore (lv' := [(5, .int 1), (0, .ref b), (1, .ref (E.2.1 0)), (2, .ref ((Eq_ E qm).2.1 0)), (3, .ref bo), (4, .int x4)]) hx hb dL_law_1369 hl (by decide) rfl (fun ls hl => ?_)
    refine lv_aload_n hx hb dL_law_1371 rfl (lv_at hl 3 rfl) ?_
    refine lcM (As := []) (rest := []) (k := 0) C0 (c_X12_define l (Eq_ E qm) gm am h2) bw951 bw1222 bw778 bw1223 bw1224 hd_X12_define ⟨Nat.le_of_ble_eq_true rfl, Nat.le_of_ble_eq_true rfl⟩ hP (va_D.eqv hD rfl) hS rfl hl.1 rfl (Nat.le_of_ble_eq_true rfl) dL_law_1372 ⟨by show _ ≤ 601024; omega, by show _ ≤ 7293033; omega⟩ (fun H locs hP hS => ?_)
    refine lv_istore (lv' := [(6, .int zm.1), (5, .int 1), (0, .ref b), (1, .ref (E.2.1 0)), (2, .ref ((Eq_ E qm).2.1 0)), (3, .ref bo), (4, .int x4)]) hx hb dL_law_1375 hl (by decide) rfl (fun ls hl => ?_)
    refine lv_aload_n hx hb dL_law_1377 rfl (lv_at hl 4 rfl) ?_
    refine lcM (As := []) (rest := []) (k := 0) C0 (c_X12_thrown l (Eq_ E qm) zm.2.1 zm.2.2) bw770 bw1107 bw778 bw1108 bw1109 hd_X12_thrown ⟨Nat.le_of_ble_eq_true rfl, Nat.le_of_ble_eq_true rfl⟩ hP (va_D.eqv hD rfl) hS rfl hl.1 rfl (Nat.le_of_ble_eq_true rfl) dL_law_1378 ⟨by show _ ≤ 601024; omega, by show _ ≤ 7293033; omega⟩ (fun H locs hP hS => ?_)
    refine lv_iload hx hb dL_law_1381 (lv_at hl 1 rfl) ?_
    refine lv_icmp_eq (tgt := 1388) hx hb dL_law_1383 (by decide) (fun _ => ?_) (fun c9 => absurd h3 c9)
    refine lv_iload hx hb dL_law_1388 (lv_at hl 1 rfl) ?_
    refine lv_if_ne (tgt := 1405) hx hb dL_law_1390 (by decide) (fun _ => ?_) (fun c9 => absurd c9 (by decide))
    refine lv_goto (tgt := 1719) hx hb dL_law_1405 (by decide) ?_
    refine W.widen (k := CE + 2) (n := SE + 54) (by omega) (by omega) ?_
    exact hk z.2.1 z.2.2 zm.2.1 zm.2.2 fo H locs ls hI9 hP hS (lv_sub hl [2, 3, 4, 5, 6] rfl)
  · refine lcW (As := [.ref (E.2.1 0), .ref bo]) (rest := []) (k := 2) C0 (c_L_define_t2 l hstk E g a bo fo h1 h5) bw1074 bw1220 bw1103 bw1221 hd_L_define ⟨Nat.le_of_ble_eq_true rfl, Nat.le_of_ble_eq_true rfl⟩ hP (va_D.eqv hD rfl) hS rfl hl.1 rfl (Nat.le_of_ble_eq_true rfl) dL_law_1366 ⟨hcs.1, hcs.2⟩ (fun H locs hP hS => ?_)
    refine lv_istore (lv' := [(5, .int 2), (0, .ref b), (1, .ref (E.2.1 0)), (2, .ref ((Eq_ E qm).2.1 0)), (3, .ref bo), (4, .int x4)]) hx hb dL_law_1369 hl (by decide) rfl (fun ls hl => ?_)
    refine lv_aload_n hx hb dL_law_1371 rfl (lv_at hl 3 rfl) ?_
    refine lcM (As := []) (rest := []) (k := 0) C0 (c_X12_define l (Eq_ E qm) gm am h2) bw951 bw1222 bw778 bw1223 bw1224 hd_X12_define ⟨Nat.le_of_ble_eq_true rfl, Nat.le_of_ble_eq_true rfl⟩ hP (va_D.eqv hD rfl) hS rfl hl.1 rfl (Nat.le_of_ble_eq_true rfl) dL_law_1372 ⟨by show _ ≤ 601024; omega, by show _ ≤ 7293033; omega⟩ (fun H locs hP hS => ?_)
    refine lv_istore (lv' := [(6, .int zm.1), (5, .int 2), (0, .ref b), (1, .ref (E.2.1 0)), (2, .ref ((Eq_ E qm).2.1 0)), (3, .ref bo), (4, .int x4)]) hx hb dL_law_1375 hl (by decide) rfl (fun ls hl => ?_)
    refine lv_aload_n hx hb dL_law_1377 rfl (lv_at hl 4 rfl) ?_
    refine lcM (As := []) (rest := []) (k := 0) C0 (c_X12_thrown l (Eq_ E qm) zm.2.1 zm.2.2) bw770 bw1107 bw778 bw1108 bw1109 hd_X12_thrown ⟨Nat.le_of_ble_eq_true rfl, Nat.le_of_ble_eq_true rfl⟩ hP (va_D.eqv hD rfl) hS rfl hl.1 rfl (Nat.le_of_ble_eq_true rfl) dL_law_1378 ⟨by show _ ≤ 601024; omega, by show _ ≤ 7293033; omega⟩ (fun H locs hP hS => ?_)
    refine lv_iload hx hb dL_law_1381 (lv_at hl 1 rfl) ?_
    refine lv_icmp_eq (tgt := 1388) hx hb dL_law_1383 (by decide) (fun _ => ?_) (fun c9 => absurd h3 c9)
    refine lv_iload hx hb dL_law_1388 (lv_at hl 1 rfl) ?_
    refine lv_if_ne (tgt := 1405) hx hb dL_law_1390 (by decide) (fun _ => ?_) (fun c9 => absurd c9 (by decide))
    refine lv_goto (tgt := 1719) hx hb dL_law_1405 (by decide) ?_
    refine W.widen (k := CE + 2) (n := SE + 54) (by omega) (by omega) ?_
    exact hk z.2.1 z.2.2 zm.2.1 zm.2.2 fo H locs ls hI9 hP hS (lv_sub hl [2, 3, 4, 5, 6] rfl)
set_option maxRecDepth 100000 in
set_option maxHeartbeats 40000000 in
theorem lc_instance {p : Program} {l : Launch} {e : Env} {s : State} {m : MethodId} {below : List Frame} {meth : Method} {c : Code} {b L : Nat} {xs : Nat → Int32} {E : xE} (C0 : lwC p l s m c b L xs E) {I : xG → xA → xG → xA → Prop} (O : ob_instance I) {g : xG} {a : xA} {gm : xG} {am : xA} (hI : I g a gm am) {i : Nat} {x4 : Int32} (ex4 : x4 = nI i) (hi : i + 5 ≤ L) (hL : L ≤ 2560) {bo : Nat} {fo : Nat → Int64} {qm : Nat → Nat} {H : Heap} {locs : List Loc} {CE SE : Nat} (hCE : CE ≤ 600000) (hSE : SE ≤ 7000000) {Q : State → Prop} (hP : va_P E.1 vwCl (wL E qm g a bo fo gm am) H) (hD : va_D (A0 s) (wL E qm g a bo fo gm am)) (hS : va_S (A0 s) s.heap H locs) {ls : Array Slot} (hl : lv_has ls 8 [(0, .ref b), (1, .ref (E.2.1 0)), (2, .ref ((Eq_ E qm).2.1 0)), (3, .ref bo), (4, .int x4)])
    (hk : ∀ (g : xG) (a : xA) (gm : xG) (am : xA) (fo : Nat → Int64) (H : Heap) (locs : List Loc) (ls : Array Slot), I g a gm am → va_P E.1 vwCl (wL E qm g a bo fo gm am) H → va_S (A0 s) s.heap H locs → lv_has ls 8 [(0, .ref b), (1, .ref (E.2.1 0)), (2, .ref ((Eq_ E qm).2.1 0)), (3, .ref bo), (4, .int x4)] → W p l e room_1 s m #[Value.ref b] below meth c H locs (CE + 2) (SE + 54) Q (F0 m 1719 ls [])) : W p l e room_1 s m #[Value.ref b] below meth c H locs CE SE Q (F0 m 1408 ls []) := by
  obtain ⟨hx, hb, hml, hown, hw, hK, hN, hT, hst, hz, hnc, hX, hbl, hstk⟩ := id C0
  have hbA : ¬ (A0 s) b := Nat.not_le.mpr hbl
  have hcs : CE + 1 ≤ room_1.cells ∧ SE + 6 ≤ room_1.slots := ⟨by show _ ≤ 601024; omega, by show _ ≤ 7293033; omega⟩
  refine lv_aload_n hx hb dL_law_1408 rfl (lv_at hl 1 rfl) ?_
  refine lv_aload_n hx hb dL_law_1409 rfl (lv_at hl 0 rfl) ?_
  refine lv_iload hx hb dL_law_1410 (lv_at hl 4 rfl) ?_
  refine lv_iconst (v := 1) hx hb dL_law_1412 (by decide) ?_
  refine lv_iadd hx hb dL_law_1413 ?_
  refine va_sld hx hb hX hbl hbA hS (law_j ex4 hi hL 1 (by decide)) dL_law_1414 ?_
  refine lv_aload_n hx hb dL_law_1415 rfl (lv_at hl 3 rfl) ?_
  rcases O g a gm am (xs (x4 + 1).toNatClampNeg) hI with ⟨z, zm, h1, h2, h3, h4, hI9⟩ | ⟨z, zm, h1, h5, h2, h3, hI9⟩
  · refine lcW (As := [.ref (E.2.1 0), .int (xs (x4 + 1).toNatClampNeg), .ref bo]) (rest := []) (k := 3) C0 (c_L_instance_r l hstk E g a (xs (x4 + 1).toNatClampNeg) bo fo h1) bw1075 bw1225 bw1103 bw1226 hd_L_instance ⟨Nat.le_of_ble_eq_true rfl, Nat.le_of_ble_eq_true rfl⟩ hP (va_D.eqv hD rfl) hS rfl hl.1 rfl (Nat.le_of_ble_eq_true rfl) dL_law_1416 ⟨hcs.1, hcs.2⟩ (fun H locs hP hS => ?_)
    refine lv_istore (lv' := [(5, .int 0), (0, .ref b), (1, .ref (E.2.1 0)), (2, .ref ((Eq_ E qm).2.1 0)), (3, .ref bo), (4, .int x4)]) hx hb dL_law_1419 hl (by decide) rfl (fun ls hl => ?_)
    refine lv_aload_n hx hb dL_law_1421 rfl (lv_at hl 3 rfl) ?_
    refine lv_aload_n hx hb dL_law_1422 rfl (lv_at hl 1 rfl) ?_
    refine lv_iload hx hb dL_law_1423 (lv_at hl 5 rfl) ?_
    refine lv_iconst (v := 1) hx hb dL_law_1425 (by decide) ?_
    refine lv_iadd hx hb dL_law_1426 ?_
    refine va_sld hx hb hX hbl hbA hS (law_j ex4 hi hL 1 (by decide)) dL_law_1427 ?_
    refine lcM (As := [.int (xs (x4 + 1).toNatClampNeg)]) (rest := []) (k := 1) C0 (c_X12_instance l (Eq_ E qm) gm am (xs (x4 + 1).toNatClampNeg)) bw952 bw1227 bw778 bw1228 bw1229 hd_X12_instance ⟨Nat.le_of_ble_eq_true rfl, Nat.le_of_ble_eq_true rfl⟩ hP (va_D.eqv hD rfl) hS rfl hl.1 rfl (Nat.le_of_ble_eq_true rfl) dL_law_1428 ⟨by show _ ≤ 601024; omega, by show _ ≤ 7293033; omega⟩ (fun H locs hP hS => ?_)
    rw [h2] at hP ⊢
    refine lv_istore (lv' := [(6, .int zm.1), (5, .int 0), (0, .ref b), (1, .ref (E.2.1 0)), (2, .ref ((Eq_ E qm).2.1 0)), (3, .ref bo), (4, .int x4)]) hx hb dL_law_1431 hl (by decide) rfl (fun ls hl => ?_)
    refine lv_aload_n hx hb dL_law_1433 rfl (lv_at hl 4 rfl) ?_
    refine lcM (As := []) (rest := []) (k := 0) C0 (c_X12_thrown l (Eq_ E qm) zm.2 am) bw770 bw1107 bw778 bw1108 bw1109 hd_X12_thrown ⟨Nat.le_of_ble_eq_true rfl, Nat.le_of_ble_eq_true rfl⟩ hP (va_D.eqv hD rfl) hS rfl hl.1 rfl (Nat.le_of_ble_eq_true rfl) dL_law_1434 ⟨by show _ ≤ 601024; omega, by show _ ≤ 7293033; omega⟩ (fun H locs hP hS => ?_)
    refine lv_iload hx hb dL_law_1437 (lv_at hl 1 rfl) ?_
    refine lv_icmp_eq (tgt := 1444) hx hb dL_law_1439 (by decide) (fun _ => ?_) (fun c9 => absurd h3 c9)
    refine lv_iload hx hb dL_law_1444 (lv_at hl 1 rfl) ?_
    refine lv_if_ne (tgt := 1461) hx hb dL_law_1446 (by decide) (fun c9 => absurd rfl c9) (fun _ => ?_)
    refine lv_aload_n hx hb dL_law_1449 rfl (lv_at hl 5 rfl) ?_
    refine lv_iconst (v := 0) hx hb dL_law_1450 (by decide) ?_
    refine va_lald hx hb hK hP 54 3 go_L rfl (inB_in (by decide)) dL_law_1451 ?_
    refine lv_iload hx hb dL_law_1452 (lv_at hl 0 rfl) ?_
    refine lv_i2l (v := ((zm.1 : Int32).toInt64)) hx hb dL_law_1454 rfl ?_
    refine W.lcmp hx hb dL_law_1455 ?_
    refine lv_if_eq (tgt := 1461) hx hb dL_law_1456 (by decide) (fun _ => ?_) (fun c9 => absurd (lg_self (congrArg Int32.toInt64 h4)) c9)
    refine lv_goto (tgt := 1719) hx hb dL_law_1461 (by decide) ?_
    refine W.widen (k := CE + 2) (n := SE + 54) (by omega) (by omega) ?_
    exact hk z.2 a zm.2 am (vp_updL fo 0 ((z.1 : Int32).toInt64)) H locs ls hI9 hP hS (lv_sub hl [2, 3, 4, 5, 6] rfl)
  · refine lcW (As := [.ref (E.2.1 0), .int (xs (x4 + 1).toNatClampNeg), .ref bo]) (rest := []) (k := 3) C0 (c_L_instance_t1 l hstk E g a (xs (x4 + 1).toNatClampNeg) bo fo h1 h5) bw1075 bw1225 bw1103 bw1226 hd_L_instance ⟨Nat.le_of_ble_eq_true rfl, Nat.le_of_ble_eq_true rfl⟩ hP (va_D.eqv hD rfl) hS rfl hl.1 rfl (Nat.le_of_ble_eq_true rfl) dL_law_1416 ⟨hcs.1, hcs.2⟩ (fun H locs hP hS => ?_)
    refine lv_istore (lv' := [(5, .int 1), (0, .ref b), (1, .ref (E.2.1 0)), (2, .ref ((Eq_ E qm).2.1 0)), (3, .ref bo), (4, .int x4)]) hx hb dL_law_1419 hl (by decide) rfl (fun ls hl => ?_)
    refine lv_aload_n hx hb dL_law_1421 rfl (lv_at hl 3 rfl) ?_
    refine lv_aload_n hx hb dL_law_1422 rfl (lv_at hl 1 rfl) ?_
    refine lv_iload hx hb dL_law_1423 (lv_at hl 5 rfl) ?_
    refine lv_iconst (v := 1) hx hb dL_law_1425 (by decide) ?_
    refine lv_iadd hx hb dL_law_1426 ?_
    refine va_sld hx hb hX hbl hbA hS (law_j ex4 hi hL 1 (by decide)) dL_law_1427 ?_
    refine lcM (As := [.int (xs (x4 + 1).toNatClampNeg)]) (rest := []) (k := 1) C0 (c_X12_instance l (Eq_ E qm) gm am (xs (x4 + 1).toNatClampNeg)) bw952 bw1227 bw778 bw1228 bw1229 hd_X12_instance ⟨Nat.le_of_ble_eq_true rfl, Nat.le_of_ble_eq_true rfl⟩ hP (va_D.eqv hD rfl) hS rfl hl.1 rfl (Nat.le_of_ble_eq_true rfl) dL_law_1428 ⟨by show _ ≤ 601024; omega, by show _ ≤ 7293033; omega⟩ (fun H locs hP hS => ?_)
    rw [h2] at hP ⊢
    refine lv_istore (lv' := [(6, .int zm.1), (5, .int 1), (0, .ref b), (1, .ref (E.2.1 0)), (2, .ref ((Eq_ E qm).2.1 0)), (3, .ref bo), (4, .int x4)]) hx hb dL_law_1431 hl (by decide) rfl (fun ls hl => ?_)
    refine lv_aload_n hx hb dL_law_1433 rfl (lv_at hl 4 rfl) ?_
    refine lcM (As := []) (rest := []) (k := 0) C0 (c_X12_thrown l (Eq_ E qm) zm.2 am) bw770 bw1107 bw778 bw1108 bw1109 hd_X12_thrown ⟨Nat.le_of_ble_eq_true rfl, Nat.le_of_ble_eq_true rfl⟩ hP (va_D.eqv hD rfl) hS rfl hl.1 rfl (Nat.le_of_ble_eq_true rfl) dL_law_1434 ⟨by show _ ≤ 601024; omega, by show _ ≤ 7293033; omega⟩ (fun H locs hP hS => ?_)
    refine lv_iload hx hb dL_law_1437 (lv_at hl 1 rfl) ?_
    refine lv_icmp_eq (tgt := 1444) hx hb dL_law_1439 (by decide) (fun _ => ?_) (fun c9 => absurd h3 c9)
    refine lv_iload hx hb dL_law_1444 (lv_at hl 1 rfl) ?_
    refine lv_if_ne (tgt := 1461) hx hb dL_law_1446 (by decide) (fun _ => ?_) (fun c9 => absurd c9 (by decide))
    refine lv_goto (tgt := 1719) hx hb dL_law_1461 (by decide) ?_
    refine W.widen (k := CE + 2) (n := SE + 54) (by omega) (by omega) ?_
    exact hk z.2 a zm.2 am fo H locs ls hI9 hP hS (lv_sub hl [2, 3, 4, 5, 6] rfl)
set_option maxRecDepth 100000 in
set_option maxHeartbeats 40000000 in
theorem lc_constrain {p : Program} {l : Launch} {e : Env} {s : State} {m : MethodId} {below : List Frame} {meth : Method} {c : Code} {b L : Nat} {xs : Nat → Int32} {E : xE} (C0 : lwC p l s m c b L xs E) {I : xG → xA → xG → xA → Prop} (O : ob_constrain I) {g : xG} {a : xA} {gm : xG} {am : xA} (hI : I g a gm am) {i : Nat} {x4 : Int32} (ex4 : x4 = nI i) (hi : i + 5 ≤ L) (hL : L ≤ 2560) {bo : Nat} {fo : Nat → Int64} {qm : Nat → Nat} {H : Heap} {locs : List Loc} {CE SE : Nat} (hCE : CE ≤ 600000) (hSE : SE ≤ 7000000) {Q : State → Prop} (hP : va_P E.1 vwCl (wL E qm g a bo fo gm am) H) (hD : va_D (A0 s) (wL E qm g a bo fo gm am)) (hS : va_S (A0 s) s.heap H locs) {ls : Array Slot} (hl : lv_has ls 8 [(0, .ref b), (1, .ref (E.2.1 0)), (2, .ref ((Eq_ E qm).2.1 0)), (3, .ref bo), (4, .int x4)])
    (hk : ∀ (g : xG) (a : xA) (gm : xG) (am : xA) (fo : Nat → Int64) (H : Heap) (locs : List Loc) (ls : Array Slot), I g a gm am → va_P E.1 vwCl (wL E qm g a bo fo gm am) H → va_S (A0 s) s.heap H locs → lv_has ls 8 [(0, .ref b), (1, .ref (E.2.1 0)), (2, .ref ((Eq_ E qm).2.1 0)), (3, .ref bo), (4, .int x4)] → W p l e room_1 s m #[Value.ref b] below meth c H locs (CE + 2) (SE + 54) Q (F0 m 1719 ls [])) : W p l e room_1 s m #[Value.ref b] below meth c H locs CE SE Q (F0 m 1464 ls []) := by
  obtain ⟨hx, hb, hml, hown, hw, hK, hN, hT, hst, hz, hnc, hX, hbl, hstk⟩ := id C0
  have hbA : ¬ (A0 s) b := Nat.not_le.mpr hbl
  have hcs : CE + 1 ≤ room_1.cells ∧ SE + 6 ≤ room_1.slots := ⟨by show _ ≤ 601024; omega, by show _ ≤ 7293033; omega⟩
  refine lv_aload_n hx hb dL_law_1464 rfl (lv_at hl 1 rfl) ?_
  refine lv_aload_n hx hb dL_law_1465 rfl (lv_at hl 0 rfl) ?_
  refine lv_iload hx hb dL_law_1466 (lv_at hl 4 rfl) ?_
  refine lv_iconst (v := 1) hx hb dL_law_1468 (by decide) ?_
  refine lv_iadd hx hb dL_law_1469 ?_
  refine va_sld hx hb hX hbl hbA hS (law_j ex4 hi hL 1 (by decide)) dL_law_1470 ?_
  refine lv_aload_n hx hb dL_law_1471 rfl (lv_at hl 0 rfl) ?_
  refine lv_iload hx hb dL_law_1472 (lv_at hl 4 rfl) ?_
  refine lv_iconst (v := 2) hx hb dL_law_1474 (by decide) ?_
  refine lv_iadd hx hb dL_law_1475 ?_
  refine va_sld hx hb hX hbl hbA hS (law_j ex4 hi hL 2 (by decide)) dL_law_1476 ?_
  refine lv_aload_n hx hb dL_law_1477 rfl (lv_at hl 0 rfl) ?_
  refine lv_iload hx hb dL_law_1478 (lv_at hl 4 rfl) ?_
  refine lv_iconst (v := 3) hx hb dL_law_1480 (by decide) ?_
  refine lv_iadd hx hb dL_law_1481 ?_
  refine va_sld hx hb hX hbl hbA hS (law_j ex4 hi hL 3 (by decide)) dL_law_1482 ?_
  refine lv_aload_n hx hb dL_law_1483 rfl (lv_at hl 0 rfl) ?_
  refine lv_iload hx hb dL_law_1484 (lv_at hl 4 rfl) ?_
  refine lv_iconst (v := 4) hx hb dL_law_1486 (by decide) ?_
  refine lv_iadd hx hb dL_law_1487 ?_
  refine va_sld hx hb hX hbl hbA hS (law_j ex4 hi hL 4 (by decide)) dL_law_1488 ?_
  refine lv_aload_n hx hb dL_law_1489 rfl (lv_at hl 3 rfl) ?_
  rcases O g a gm am (xs (x4 + 1).toNatClampNeg) (xs (x4 + 2).toNatClampNeg) (xs (x4 + 3).toNatClampNeg) (xs (x4 + 4).toNatClampNeg) hI with ⟨z, zm, h1, h2, h3, h4, hI9⟩ | ⟨z, zm, h1, h5, h2, h3, hI9⟩ | ⟨z, zm, h1, h5, h2, h3, hI9⟩ | ⟨z, zm, h1, h5, h2, h3, hI9⟩
  · refine lcW (As := [.ref (E.2.1 0), .int (xs (x4 + 1).toNatClampNeg), .int (xs (x4 + 2).toNatClampNeg), .int (xs (x4 + 3).toNatClampNeg), .int (xs (x4 + 4).toNatClampNeg), .ref bo]) (rest := []) (k := 6) C0 (c_L_constrain_r l hstk E g a (xs (x4 + 1).toNatClampNeg) (xs (x4 + 2).toNatClampNeg) (xs (x4 + 3).toNatClampNeg) (xs (x4 + 4).toNatClampNeg) bo fo h1) bw1082 bw1230 bw1103 bw1231 hd_L_constrain ⟨Nat.le_of_ble_eq_true rfl, Nat.le_of_ble_eq_true rfl⟩ hP (va_D.eqv hD rfl) hS rfl hl.1 rfl (Nat.le_of_ble_eq_true rfl) dL_law_1490 ⟨hcs.1, hcs.2⟩ (fun H locs hP hS => ?_)
    refine lv_istore (lv' := [(5, .int 0), (0, .ref b), (1, .ref (E.2.1 0)), (2, .ref ((Eq_ E qm).2.1 0)), (3, .ref bo), (4, .int x4)]) hx hb dL_law_1493 hl (by decide) rfl (fun ls hl => ?_)
    refine lv_aload_n hx hb dL_law_1495 rfl (lv_at hl 3 rfl) ?_
    refine lv_aload_n hx hb dL_law_1496 rfl (lv_at hl 1 rfl) ?_
    refine lv_iload hx hb dL_law_1497 (lv_at hl 5 rfl) ?_
    refine lv_iconst (v := 1) hx hb dL_law_1499 (by decide) ?_
    refine lv_iadd hx hb dL_law_1500 ?_
    refine va_sld hx hb hX hbl hbA hS (law_j ex4 hi hL 1 (by decide)) dL_law_1501 ?_
    refine lv_aload_n hx hb dL_law_1502 rfl (lv_at hl 1 rfl) ?_
    refine lv_iload hx hb dL_law_1503 (lv_at hl 5 rfl) ?_
    refine lv_iconst (v := 2) hx hb dL_law_1505 (by decide) ?_
    refine lv_iadd hx hb dL_law_1506 ?_
    refine va_sld hx hb hX hbl hbA hS (law_j ex4 hi hL 2 (by decide)) dL_law_1507 ?_
    refine lv_aload_n hx hb dL_law_1508 rfl (lv_at hl 1 rfl) ?_
    refine lv_iload hx hb dL_law_1509 (lv_at hl 5 rfl) ?_
    refine lv_iconst (v := 3) hx hb dL_law_1511 (by decide) ?_
    refine lv_iadd hx hb dL_law_1512 ?_
    refine va_sld hx hb hX hbl hbA hS (law_j ex4 hi hL 3 (by decide)) dL_law_1513 ?_
    refine lv_aload_n hx hb dL_law_1514 rfl (lv_at hl 1 rfl) ?_
    refine lv_iload hx hb dL_law_1515 (lv_at hl 5 rfl) ?_
    refine lv_iconst (v := 4) hx hb dL_law_1517 (by decide) ?_
    refine lv_iadd hx hb dL_law_1518 ?_
    refine va_sld hx hb hX hbl hbA hS (law_j ex4 hi hL 4 (by decide)) dL_law_1519 ?_
    refine lcM (As := [.int (xs (x4 + 1).toNatClampNeg), .int (xs (x4 + 2).toNatClampNeg), .int (xs (x4 + 3).toNatClampNeg), .int (xs (x4 + 4).toNatClampNeg)]) (rest := []) (k := 4) C0 (c_X12_constrain l (Eq_ E qm) gm am (xs (x4 + 1).toNatClampNeg) (xs (x4 + 2).toNatClampNeg) (xs (x4 + 3).toNatClampNeg) (xs (x4 + 4).toNatClampNeg) h2) bw954 bw1232 bw778 bw1233 bw1234 hd_X12_constrain ⟨Nat.le_of_ble_eq_true rfl, Nat.le_of_ble_eq_true rfl⟩ hP (va_D.eqv hD rfl) hS rfl hl.1 rfl (Nat.le_of_ble_eq_true rfl) dL_law_1520 ⟨by show _ ≤ 601024; omega, by show _ ≤ 7293033; omega⟩ (fun H locs hP hS => ?_)
    refine lv_istore (lv' := [(6, .int zm.1), (5, .int 0), (0, .ref b), (1, .ref (E.2.1 0)), (2, .ref ((Eq_ E qm).2.1 0)), (3, .ref bo), (4, .int x4)]) hx hb dL_law_1523 hl (by decide) rfl (fun ls hl => ?_)
    refine lv_aload_n hx hb dL_law_1525 rfl (lv_at hl 4 rfl) ?_
    refine lcM (As := []) (rest := []) (k := 0) C0 (c_X12_thrown l (Eq_ E qm) zm.2.1 zm.2.2) bw770 bw1107 bw778 bw1108 bw1109 hd_X12_thrown ⟨Nat.le_of_ble_eq_true rfl, Nat.le_of_ble_eq_true rfl⟩ hP (va_D.eqv hD rfl) hS rfl hl.1 rfl (Nat.le_of_ble_eq_true rfl) dL_law_1526 ⟨by show _ ≤ 601024; omega, by show _ ≤ 7293033; omega⟩ (fun H locs hP hS => ?_)
    refine lv_iload hx hb dL_law_1529 (lv_at hl 1 rfl) ?_
    refine lv_icmp_eq (tgt := 1536) hx hb dL_law_1531 (by decide) (fun _ => ?_) (fun c9 => absurd h3 c9)
    refine lv_iload hx hb dL_law_1536 (lv_at hl 1 rfl) ?_
    refine lv_if_ne (tgt := 1553) hx hb dL_law_1538 (by decide) (fun c9 => absurd rfl c9) (fun _ => ?_)
    refine lv_aload_n hx hb dL_law_1541 rfl (lv_at hl 5 rfl) ?_
    refine lv_iconst (v := 0) hx hb dL_law_1542 (by decide) ?_
    refine va_lald hx hb hK hP 54 3 go_L rfl (inB_in (by decide)) dL_law_1543 ?_
    refine lv_iload hx hb dL_law_1544 (lv_at hl 0 rfl) ?_
    refine lv_i2l (v := ((zm.1 : Int32).toInt64)) hx hb dL_law_1546 rfl ?_
    refine W.lcmp hx hb dL_law_1547 ?_
    refine lv_if_eq (tgt := 1553) hx hb dL_law_1548 (by decide) (fun _ => ?_) (fun c9 => absurd (lg_self (congrArg Int32.toInt64 h4)) c9)
    refine lv_goto (tgt := 1719) hx hb dL_law_1553 (by decide) ?_
    refine W.widen (k := CE + 2) (n := SE + 54) (by omega) (by omega) ?_
    exact hk z.2.1 z.2.2 zm.2.1 zm.2.2 (vp_updL fo 0 ((z.1 : Int32).toInt64)) H locs ls hI9 hP hS (lv_sub hl [2, 3, 4, 5, 6] rfl)
  · refine lcW (As := [.ref (E.2.1 0), .int (xs (x4 + 1).toNatClampNeg), .int (xs (x4 + 2).toNatClampNeg), .int (xs (x4 + 3).toNatClampNeg), .int (xs (x4 + 4).toNatClampNeg), .ref bo]) (rest := []) (k := 6) C0 (c_L_constrain_t3 l hstk E g a (xs (x4 + 1).toNatClampNeg) (xs (x4 + 2).toNatClampNeg) (xs (x4 + 3).toNatClampNeg) (xs (x4 + 4).toNatClampNeg) bo fo h1 h5) bw1082 bw1230 bw1103 bw1231 hd_L_constrain ⟨Nat.le_of_ble_eq_true rfl, Nat.le_of_ble_eq_true rfl⟩ hP (va_D.eqv hD rfl) hS rfl hl.1 rfl (Nat.le_of_ble_eq_true rfl) dL_law_1490 ⟨hcs.1, hcs.2⟩ (fun H locs hP hS => ?_)
    refine lv_istore (lv' := [(5, .int 1), (0, .ref b), (1, .ref (E.2.1 0)), (2, .ref ((Eq_ E qm).2.1 0)), (3, .ref bo), (4, .int x4)]) hx hb dL_law_1493 hl (by decide) rfl (fun ls hl => ?_)
    refine lv_aload_n hx hb dL_law_1495 rfl (lv_at hl 3 rfl) ?_
    refine lv_aload_n hx hb dL_law_1496 rfl (lv_at hl 1 rfl) ?_
    refine lv_iload hx hb dL_law_1497 (lv_at hl 5 rfl) ?_
    refine lv_iconst (v := 1) hx hb dL_law_1499 (by decide) ?_
    refine lv_iadd hx hb dL_law_1500 ?_
    refine va_sld hx hb hX hbl hbA hS (law_j ex4 hi hL 1 (by decide)) dL_law_1501 ?_
    refine lv_aload_n hx hb dL_law_1502 rfl (lv_at hl 1 rfl) ?_
    refine lv_iload hx hb dL_law_1503 (lv_at hl 5 rfl) ?_
    refine lv_iconst (v := 2) hx hb dL_law_1505 (by decide) ?_
    refine lv_iadd hx hb dL_law_1506 ?_
    refine va_sld hx hb hX hbl hbA hS (law_j ex4 hi hL 2 (by decide)) dL_law_1507 ?_
    refine lv_aload_n hx hb dL_law_1508 rfl (lv_at hl 1 rfl) ?_
    refine lv_iload hx hb dL_law_1509 (lv_at hl 5 rfl) ?_
    refine lv_iconst (v := 3) hx hb dL_law_1511 (by decide) ?_
    refine lv_iadd hx hb dL_law_1512 ?_
    refine va_sld hx hb hX hbl hbA hS (law_j ex4 hi hL 3 (by decide)) dL_law_1513 ?_
    refine lv_aload_n hx hb dL_law_1514 rfl (lv_at hl 1 rfl) ?_
    refine lv_iload hx hb dL_law_1515 (lv_at hl 5 rfl) ?_
    refine lv_iconst (v := 4) hx hb dL_law_1517 (by decide) ?_
    refine lv_iadd hx hb dL_law_1518 ?_
    refine va_sld hx hb hX hbl hbA hS (law_j ex4 hi hL 4 (by decide)) dL_law_1519 ?_
    refine lcM (As := [.int (xs (x4 + 1).toNatClampNeg), .int (xs (x4 + 2).toNatClampNeg), .int (xs (x4 + 3).toNatClampNeg), .int (xs (x4 + 4).toNatClampNeg)]) (rest := []) (k := 4) C0 (c_X12_constrain l (Eq_ E qm) gm am (xs (x4 + 1).toNatClampNeg) (xs (x4 + 2).toNatClampNeg) (xs (x4 + 3).toNatClampNeg) (xs (x4 + 4).toNatClampNeg) h2) bw954 bw1232 bw778 bw1233 bw1234 hd_X12_constrain ⟨Nat.le_of_ble_eq_true rfl, Nat.le_of_ble_eq_true rfl⟩ hP (va_D.eqv hD rfl) hS rfl hl.1 rfl (Nat.le_of_ble_eq_true rfl) dL_law_1520 ⟨by show _ ≤ 601024; omega, by show _ ≤ 7293033; omega⟩ (fun H locs hP hS => ?_)
    refine lv_istore (lv' := [(6, .int zm.1), (5, .int 1), (0, .ref b), (1, .ref (E.2.1 0)), (2, .ref ((Eq_ E qm).2.1 0)), (3, .ref bo), (4, .int x4)]) hx hb dL_law_1523 hl (by decide) rfl (fun ls hl => ?_)
    refine lv_aload_n hx hb dL_law_1525 rfl (lv_at hl 4 rfl) ?_
    refine lcM (As := []) (rest := []) (k := 0) C0 (c_X12_thrown l (Eq_ E qm) zm.2.1 zm.2.2) bw770 bw1107 bw778 bw1108 bw1109 hd_X12_thrown ⟨Nat.le_of_ble_eq_true rfl, Nat.le_of_ble_eq_true rfl⟩ hP (va_D.eqv hD rfl) hS rfl hl.1 rfl (Nat.le_of_ble_eq_true rfl) dL_law_1526 ⟨by show _ ≤ 601024; omega, by show _ ≤ 7293033; omega⟩ (fun H locs hP hS => ?_)
    refine lv_iload hx hb dL_law_1529 (lv_at hl 1 rfl) ?_
    refine lv_icmp_eq (tgt := 1536) hx hb dL_law_1531 (by decide) (fun _ => ?_) (fun c9 => absurd h3 c9)
    refine lv_iload hx hb dL_law_1536 (lv_at hl 1 rfl) ?_
    refine lv_if_ne (tgt := 1553) hx hb dL_law_1538 (by decide) (fun _ => ?_) (fun c9 => absurd c9 (by decide))
    refine lv_goto (tgt := 1719) hx hb dL_law_1553 (by decide) ?_
    refine W.widen (k := CE + 2) (n := SE + 54) (by omega) (by omega) ?_
    exact hk z.2.1 z.2.2 zm.2.1 zm.2.2 fo H locs ls hI9 hP hS (lv_sub hl [2, 3, 4, 5, 6] rfl)
  · refine lcW (As := [.ref (E.2.1 0), .int (xs (x4 + 1).toNatClampNeg), .int (xs (x4 + 2).toNatClampNeg), .int (xs (x4 + 3).toNatClampNeg), .int (xs (x4 + 4).toNatClampNeg), .ref bo]) (rest := []) (k := 6) C0 (c_L_constrain_t1 l hstk E g a (xs (x4 + 1).toNatClampNeg) (xs (x4 + 2).toNatClampNeg) (xs (x4 + 3).toNatClampNeg) (xs (x4 + 4).toNatClampNeg) bo fo h1 h5) bw1082 bw1230 bw1103 bw1231 hd_L_constrain ⟨Nat.le_of_ble_eq_true rfl, Nat.le_of_ble_eq_true rfl⟩ hP (va_D.eqv hD rfl) hS rfl hl.1 rfl (Nat.le_of_ble_eq_true rfl) dL_law_1490 ⟨hcs.1, hcs.2⟩ (fun H locs hP hS => ?_)
    refine lv_istore (lv' := [(5, .int 2), (0, .ref b), (1, .ref (E.2.1 0)), (2, .ref ((Eq_ E qm).2.1 0)), (3, .ref bo), (4, .int x4)]) hx hb dL_law_1493 hl (by decide) rfl (fun ls hl => ?_)
    refine lv_aload_n hx hb dL_law_1495 rfl (lv_at hl 3 rfl) ?_
    refine lv_aload_n hx hb dL_law_1496 rfl (lv_at hl 1 rfl) ?_
    refine lv_iload hx hb dL_law_1497 (lv_at hl 5 rfl) ?_
    refine lv_iconst (v := 1) hx hb dL_law_1499 (by decide) ?_
    refine lv_iadd hx hb dL_law_1500 ?_
    refine va_sld hx hb hX hbl hbA hS (law_j ex4 hi hL 1 (by decide)) dL_law_1501 ?_
    refine lv_aload_n hx hb dL_law_1502 rfl (lv_at hl 1 rfl) ?_
    refine lv_iload hx hb dL_law_1503 (lv_at hl 5 rfl) ?_
    refine lv_iconst (v := 2) hx hb dL_law_1505 (by decide) ?_
    refine lv_iadd hx hb dL_law_1506 ?_
    refine va_sld hx hb hX hbl hbA hS (law_j ex4 hi hL 2 (by decide)) dL_law_1507 ?_
    refine lv_aload_n hx hb dL_law_1508 rfl (lv_at hl 1 rfl) ?_
    refine lv_iload hx hb dL_law_1509 (lv_at hl 5 rfl) ?_
    refine lv_iconst (v := 3) hx hb dL_law_1511 (by decide) ?_
    refine lv_iadd hx hb dL_law_1512 ?_
    refine va_sld hx hb hX hbl hbA hS (law_j ex4 hi hL 3 (by decide)) dL_law_1513 ?_
    refine lv_aload_n hx hb dL_law_1514 rfl (lv_at hl 1 rfl) ?_
    refine lv_iload hx hb dL_law_1515 (lv_at hl 5 rfl) ?_
    refine lv_iconst (v := 4) hx hb dL_law_1517 (by decide) ?_
    refine lv_iadd hx hb dL_law_1518 ?_
    refine va_sld hx hb hX hbl hbA hS (law_j ex4 hi hL 4 (by decide)) dL_law_1519 ?_
    refine lcM (As := [.int (xs (x4 + 1).toNatClampNeg), .int (xs (x4 + 2).toNatClampNeg), .int (xs (x4 + 3).toNatClampNeg), .int (xs (x4 + 4).toNatClampNeg)]) (rest := []) (k := 4) C0 (c_X12_constrain l (Eq_ E qm) gm am (xs (x4 + 1).toNatClampNeg) (xs (x4 + 2).toNatClampNeg) (xs (x4 + 3).toNatClampNeg) (xs (x4 + 4).toNatClampNeg) h2) bw954 bw1232 bw778 bw1233 bw1234 hd_X12_constrain ⟨Nat.le_of_ble_eq_true rfl, Nat.le_of_ble_eq_true rfl⟩ hP (va_D.eqv hD rfl) hS rfl hl.1 rfl (Nat.le_of_ble_eq_true rfl) dL_law_1520 ⟨by show _ ≤ 601024; omega, by show _ ≤ 7293033; omega⟩ (fun H locs hP hS => ?_)
    refine lv_istore (lv' := [(6, .int zm.1), (5, .int 2), (0, .ref b), (1, .ref (E.2.1 0)), (2, .ref ((Eq_ E qm).2.1 0)), (3, .ref bo), (4, .int x4)]) hx hb dL_law_1523 hl (by decide) rfl (fun ls hl => ?_)
    refine lv_aload_n hx hb dL_law_1525 rfl (lv_at hl 4 rfl) ?_
    refine lcM (As := []) (rest := []) (k := 0) C0 (c_X12_thrown l (Eq_ E qm) zm.2.1 zm.2.2) bw770 bw1107 bw778 bw1108 bw1109 hd_X12_thrown ⟨Nat.le_of_ble_eq_true rfl, Nat.le_of_ble_eq_true rfl⟩ hP (va_D.eqv hD rfl) hS rfl hl.1 rfl (Nat.le_of_ble_eq_true rfl) dL_law_1526 ⟨by show _ ≤ 601024; omega, by show _ ≤ 7293033; omega⟩ (fun H locs hP hS => ?_)
    refine lv_iload hx hb dL_law_1529 (lv_at hl 1 rfl) ?_
    refine lv_icmp_eq (tgt := 1536) hx hb dL_law_1531 (by decide) (fun _ => ?_) (fun c9 => absurd h3 c9)
    refine lv_iload hx hb dL_law_1536 (lv_at hl 1 rfl) ?_
    refine lv_if_ne (tgt := 1553) hx hb dL_law_1538 (by decide) (fun _ => ?_) (fun c9 => absurd c9 (by decide))
    refine lv_goto (tgt := 1719) hx hb dL_law_1553 (by decide) ?_
    refine W.widen (k := CE + 2) (n := SE + 54) (by omega) (by omega) ?_
    exact hk z.2.1 z.2.2 zm.2.1 zm.2.2 fo H locs ls hI9 hP hS (lv_sub hl [2, 3, 4, 5, 6] rfl)
  · refine lcW (As := [.ref (E.2.1 0), .int (xs (x4 + 1).toNatClampNeg), .int (xs (x4 + 2).toNatClampNeg), .int (xs (x4 + 3).toNatClampNeg), .int (xs (x4 + 4).toNatClampNeg), .ref bo]) (rest := []) (k := 6) C0 (c_L_constrain_t2 l hstk E g a (xs (x4 + 1).toNatClampNeg) (xs (x4 + 2).toNatClampNeg) (xs (x4 + 3).toNatClampNeg) (xs (x4 + 4).toNatClampNeg) bo fo h1 h5) bw1082 bw1230 bw1103 bw1231 hd_L_constrain ⟨Nat.le_of_ble_eq_true rfl, Nat.le_of_ble_eq_true rfl⟩ hP (va_D.eqv hD rfl) hS rfl hl.1 rfl (Nat.le_of_ble_eq_true rfl) dL_law_1490 ⟨hcs.1, hcs.2⟩ (fun H locs hP hS => ?_)
    refine lv_istore (lv' := [(5, .int 3), (0, .ref b), (1, .ref (E.2.1 0)), (2, .ref ((Eq_ E qm).2.1 0)), (3, .ref bo), (4, .int x4)]) hx hb dL_law_1493 hl (by decide) rfl (fun ls hl => ?_)
    refine lv_aload_n hx hb dL_law_1495 rfl (lv_at hl 3 rfl) ?_
    refine lv_aload_n hx hb dL_law_1496 rfl (lv_at hl 1 rfl) ?_
    refine lv_iload hx hb dL_law_1497 (lv_at hl 5 rfl) ?_
    refine lv_iconst (v := 1) hx hb dL_law_1499 (by decide) ?_
    refine lv_iadd hx hb dL_law_1500 ?_
    refine va_sld hx hb hX hbl hbA hS (law_j ex4 hi hL 1 (by decide)) dL_law_1501 ?_
    refine lv_aload_n hx hb dL_law_1502 rfl (lv_at hl 1 rfl) ?_
    refine lv_iload hx hb dL_law_1503 (lv_at hl 5 rfl) ?_
    refine lv_iconst (v := 2) hx hb dL_law_1505 (by decide) ?_
    refine lv_iadd hx hb dL_law_1506 ?_
    refine va_sld hx hb hX hbl hbA hS (law_j ex4 hi hL 2 (by decide)) dL_law_1507 ?_
    refine lv_aload_n hx hb dL_law_1508 rfl (lv_at hl 1 rfl) ?_
    refine lv_iload hx hb dL_law_1509 (lv_at hl 5 rfl) ?_
    refine lv_iconst (v := 3) hx hb dL_law_1511 (by decide) ?_
    refine lv_iadd hx hb dL_law_1512 ?_
    refine va_sld hx hb hX hbl hbA hS (law_j ex4 hi hL 3 (by decide)) dL_law_1513 ?_
    refine lv_aload_n hx hb dL_law_1514 rfl (lv_at hl 1 rfl) ?_
    refine lv_iload hx hb dL_law_1515 (lv_at hl 5 rfl) ?_
    refine lv_iconst (v := 4) hx hb dL_law_1517 (by decide) ?_
    refine lv_iadd hx hb dL_law_1518 ?_
    refine va_sld hx hb hX hbl hbA hS (law_j ex4 hi hL 4 (by decide)) dL_law_1519 ?_
    refine lcM (As := [.int (xs (x4 + 1).toNatClampNeg), .int (xs (x4 + 2).toNatClampNeg), .int (xs (x4 + 3).toNatClampNeg), .int (xs (x4 + 4).toNatClampNeg)]) (rest := []) (k := 4) C0 (c_X12_constrain l (Eq_ E qm) gm am (xs (x4 + 1).toNatClampNeg) (xs (x4 + 2).toNatClampNeg) (xs (x4 + 3).toNatClampNeg) (xs (x4 + 4).toNatClampNeg) h2) bw954 bw1232 bw778 bw1233 bw1234 hd_X12_constrain ⟨Nat.le_of_ble_eq_true rfl, Nat.le_of_ble_eq_true rfl⟩ hP (va_D.eqv hD rfl) hS rfl hl.1 rfl (Nat.le_of_ble_eq_true rfl) dL_law_1520 ⟨by show _ ≤ 601024; omega, by show _ ≤ 7293033; omega⟩ (fun H locs hP hS => ?_)
    refine lv_istore (lv' := [(6, .int zm.1), (5, .int 3), (0, .ref b), (1, .ref (E.2.1 0)), (2, .ref ((Eq_ E qm).2.1 0)), (3, .ref bo), (4, .int x4)]) hx hb dL_law_1523 hl (by decide) rfl (fun ls hl => ?_)
    refine lv_aload_n hx hb dL_law_1525 rfl (lv_at hl 4 rfl) ?_
    refine lcM (As := []) (rest := []) (k := 0) C0 (c_X12_thrown l (Eq_ E qm) zm.2.1 zm.2.2) bw770 bw1107 bw778 bw1108 bw1109 hd_X12_thrown ⟨Nat.le_of_ble_eq_true rfl, Nat.le_of_ble_eq_true rfl⟩ hP (va_D.eqv hD rfl) hS rfl hl.1 rfl (Nat.le_of_ble_eq_true rfl) dL_law_1526 ⟨by show _ ≤ 601024; omega, by show _ ≤ 7293033; omega⟩ (fun H locs hP hS => ?_)
    refine lv_iload hx hb dL_law_1529 (lv_at hl 1 rfl) ?_
    refine lv_icmp_eq (tgt := 1536) hx hb dL_law_1531 (by decide) (fun _ => ?_) (fun c9 => absurd h3 c9)
    refine lv_iload hx hb dL_law_1536 (lv_at hl 1 rfl) ?_
    refine lv_if_ne (tgt := 1553) hx hb dL_law_1538 (by decide) (fun _ => ?_) (fun c9 => absurd c9 (by decide))
    refine lv_goto (tgt := 1719) hx hb dL_law_1553 (by decide) ?_
    refine W.widen (k := CE + 2) (n := SE + 54) (by omega) (by omega) ?_
    exact hk z.2.1 z.2.2 zm.2.1 zm.2.2 fo H locs ls hI9 hP hS (lv_sub hl [2, 3, 4, 5, 6] rfl)
set_option maxRecDepth 100000 in
set_option maxHeartbeats 40000000 in
theorem lc_solutions {p : Program} {l : Launch} {e : Env} {s : State} {m : MethodId} {below : List Frame} {meth : Method} {c : Code} {b L : Nat} {xs : Nat → Int32} {E : xE} (C0 : lwC p l s m c b L xs E) {I : xG → xA → xG → xA → Prop} (O : ob_solutions I) {g : xG} {a : xA} {gm : xG} {am : xA} (hI : I g a gm am) {i : Nat} {x4 : Int32} (ex4 : x4 = nI i) (hi : i + 5 ≤ L) (hL : L ≤ 2560) {bo : Nat} {fo : Nat → Int64} {qm : Nat → Nat} {H : Heap} {locs : List Loc} {CE SE : Nat} (hCE : CE ≤ 600000) (hSE : SE ≤ 7000000) {Q : State → Prop} (hP : va_P E.1 vwCl (wL E qm g a bo fo gm am) H) (hD : va_D (A0 s) (wL E qm g a bo fo gm am)) (hS : va_S (A0 s) s.heap H locs) {ls : Array Slot} (hl : lv_has ls 8 [(0, .ref b), (1, .ref (E.2.1 0)), (2, .ref ((Eq_ E qm).2.1 0)), (3, .ref bo), (4, .int x4)])
    (hk : ∀ (g : xG) (a : xA) (gm : xG) (am : xA) (fo : Nat → Int64) (H : Heap) (locs : List Loc) (ls : Array Slot), I g a gm am → va_P E.1 vwCl (wL E qm g a bo fo gm am) H → va_S (A0 s) s.heap H locs → lv_has ls 8 [(0, .ref b), (1, .ref (E.2.1 0)), (2, .ref ((Eq_ E qm).2.1 0)), (3, .ref bo), (4, .int x4)] → W p l e room_1 s m #[Value.ref b] below meth c H locs (CE + 2) (SE + 54) Q (F0 m 1719 ls [])) : W p l e room_1 s m #[Value.ref b] below meth c H locs CE SE Q (F0 m 1556 ls []) := by
  obtain ⟨hx, hb, hml, hown, hw, hK, hN, hT, hst, hz, hnc, hX, hbl, hstk⟩ := id C0
  have hbA : ¬ (A0 s) b := Nat.not_le.mpr hbl
  have hcs : CE + 1 ≤ room_1.cells ∧ SE + 6 ≤ room_1.slots := ⟨by show _ ≤ 601024; omega, by show _ ≤ 7293033; omega⟩
  refine lv_aload_n hx hb dL_law_1556 rfl (lv_at hl 1 rfl) ?_
  obtain ⟨z, zm, h1, h2, h4, hI9⟩ := O g a gm am hI
  refine lcX (As := []) (rest := []) (k := 0) C0 (c_X11_solutions l E g a h1) bw736 bw1235 bw13 bw1236 bw1237 hd_X11_solutions ⟨Nat.le_of_ble_eq_true rfl, Nat.le_of_ble_eq_true rfl⟩ hP (va_D.eqv hD rfl) hS rfl hl.1 rfl (Nat.le_of_ble_eq_true rfl) dL_law_1557 ⟨by show _ ≤ 601024; omega, by show _ ≤ 7293033; omega⟩ (fun H locs hP hS => ?_)
  refine lv_aload_n hx hb dL_law_1560 rfl (lv_at hl 2 rfl) ?_
  refine lcM (As := []) (rest := [.int z.1]) (k := 0) C0 (c_X12_solutions l (Eq_ E qm) gm am h2) bw959 bw1238 bw778 bw964 bw965 hd_X12_solutions ⟨Nat.le_of_ble_eq_true rfl, Nat.le_of_ble_eq_true rfl⟩ hP (va_D.eqv hD rfl) hS rfl hl.1 rfl (Nat.le_of_ble_eq_true rfl) dL_law_1561 ⟨by show _ ≤ 601024; omega, by show _ ≤ 7293033; omega⟩ (fun H locs hP hS => ?_)
  refine lv_icmp_eq (tgt := 1719) hx hb dL_law_1564 (by decide) (fun _ => ?_) (fun c9 => absurd h4 c9)
  refine W.widen (k := CE + 2) (n := SE + 54) (by omega) (by omega) ?_
  exact hk g z.2 zm.2 am fo H locs ls hI9 hP hS (lv_sub hl [0, 1, 2, 3, 4] rfl)
set_option maxRecDepth 100000 in
set_option maxHeartbeats 40000000 in
theorem lc_solutionsAnew {p : Program} {l : Launch} {e : Env} {s : State} {m : MethodId} {below : List Frame} {meth : Method} {c : Code} {b L : Nat} {xs : Nat → Int32} {E : xE} (C0 : lwC p l s m c b L xs E) {I : xG → xA → xG → xA → Prop} (O : ob_solutionsAnew I) {g : xG} {a : xA} {gm : xG} {am : xA} (hI : I g a gm am) {i : Nat} {x4 : Int32} (ex4 : x4 = nI i) (hi : i + 5 ≤ L) (hL : L ≤ 2560) {bo : Nat} {fo : Nat → Int64} {qm : Nat → Nat} {H : Heap} {locs : List Loc} {CE SE : Nat} (hCE : CE ≤ 600000) (hSE : SE ≤ 7000000) {Q : State → Prop} (hP : va_P E.1 vwCl (wL E qm g a bo fo gm am) H) (hD : va_D (A0 s) (wL E qm g a bo fo gm am)) (hS : va_S (A0 s) s.heap H locs) {ls : Array Slot} (hl : lv_has ls 8 [(0, .ref b), (1, .ref (E.2.1 0)), (2, .ref ((Eq_ E qm).2.1 0)), (3, .ref bo), (4, .int x4)])
    (hk : ∀ (g : xG) (a : xA) (gm : xG) (am : xA) (fo : Nat → Int64) (H : Heap) (locs : List Loc) (ls : Array Slot), I g a gm am → va_P E.1 vwCl (wL E qm g a bo fo gm am) H → va_S (A0 s) s.heap H locs → lv_has ls 8 [(0, .ref b), (1, .ref (E.2.1 0)), (2, .ref ((Eq_ E qm).2.1 0)), (3, .ref bo), (4, .int x4)] → W p l e room_1 s m #[Value.ref b] below meth c H locs (CE + 2) (SE + 54) Q (F0 m 1719 ls [])) : W p l e room_1 s m #[Value.ref b] below meth c H locs CE SE Q (F0 m 1569 ls []) := by
  obtain ⟨hx, hb, hml, hown, hw, hK, hN, hT, hst, hz, hnc, hX, hbl, hstk⟩ := id C0
  have hbA : ¬ (A0 s) b := Nat.not_le.mpr hbl
  have hcs : CE + 1 ≤ room_1.cells ∧ SE + 6 ≤ room_1.slots := ⟨by show _ ≤ 601024; omega, by show _ ≤ 7293033; omega⟩
  refine lv_aload_n hx hb dL_law_1569 rfl (lv_at hl 1 rfl) ?_
  obtain ⟨z, zm, h1, h2, h4, hI9⟩ := O g a gm am hI
  refine lcX (As := []) (rest := []) (k := 0) C0 (c_X11_solutionsAnew l E g a h1) bw740 bw1239 bw13 bw1240 bw1241 hd_X11_solutionsAnew ⟨Nat.le_of_ble_eq_true rfl, Nat.le_of_ble_eq_true rfl⟩ hP (va_D.eqv hD rfl) hS rfl hl.1 rfl (Nat.le_of_ble_eq_true rfl) dL_law_1570 ⟨by show _ ≤ 601024; omega, by show _ ≤ 7293033; omega⟩ (fun H locs hP hS => ?_)
  refine lv_aload_n hx hb dL_law_1573 rfl (lv_at hl 2 rfl) ?_
  refine lcM (As := []) (rest := [.int z.1]) (k := 0) C0 (c_X12_solutionsAnew l (Eq_ E qm) gm am h2) bw966 bw1242 bw778 bw1243 bw1244 hd_X12_solutionsAnew ⟨Nat.le_of_ble_eq_true rfl, Nat.le_of_ble_eq_true rfl⟩ hP (va_D.eqv hD rfl) hS rfl hl.1 rfl (Nat.le_of_ble_eq_true rfl) dL_law_1574 ⟨by show _ ≤ 601024; omega, by show _ ≤ 7293033; omega⟩ (fun H locs hP hS => ?_)
  refine lv_icmp_eq (tgt := 1719) hx hb dL_law_1577 (by decide) (fun _ => ?_) (fun c9 => absurd h4 c9)
  refine W.widen (k := CE + 2) (n := SE + 54) (by omega) (by omega) ?_
  exact hk g z.2 zm.2 am fo H locs ls hI9 hP hS (lv_sub hl [0, 1, 2, 3, 4] rfl)
set_option maxRecDepth 100000 in
set_option maxHeartbeats 40000000 in
theorem lc_solve {p : Program} {l : Launch} {e : Env} {s : State} {m : MethodId} {below : List Frame} {meth : Method} {c : Code} {b L : Nat} {xs : Nat → Int32} {E : xE} (C0 : lwC p l s m c b L xs E) {I : xG → xA → xG → xA → Prop} (O : ob_solve I) {g : xG} {a : xA} {gm : xG} {am : xA} (hI : I g a gm am) {i : Nat} {x4 : Int32} (ex4 : x4 = nI i) (hi : i + 5 ≤ L) (hL : L ≤ 2560) {bo : Nat} {fo : Nat → Int64} {qm : Nat → Nat} {H : Heap} {locs : List Loc} {CE SE : Nat} (hCE : CE ≤ 600000) (hSE : SE ≤ 7000000) {Q : State → Prop} (hP : va_P E.1 vwCl (wL E qm g a bo fo gm am) H) (hD : va_D (A0 s) (wL E qm g a bo fo gm am)) (hS : va_S (A0 s) s.heap H locs) {ls : Array Slot} (hl : lv_has ls 8 [(0, .ref b), (1, .ref (E.2.1 0)), (2, .ref ((Eq_ E qm).2.1 0)), (3, .ref bo), (4, .int x4)])
    (hk : ∀ (g : xG) (a : xA) (gm : xG) (am : xA) (fo : Nat → Int64) (H : Heap) (locs : List Loc) (ls : Array Slot), I g a gm am → va_P E.1 vwCl (wL E qm g a bo fo gm am) H → va_S (A0 s) s.heap H locs → lv_has ls 8 [(0, .ref b), (1, .ref (E.2.1 0)), (2, .ref ((Eq_ E qm).2.1 0)), (3, .ref bo), (4, .int x4)] → W p l e room_1 s m #[Value.ref b] below meth c H locs (CE + 2) (SE + 54) Q (F0 m 1719 ls [])) : W p l e room_1 s m #[Value.ref b] below meth c H locs CE SE Q (F0 m 1582 ls []) := by
  obtain ⟨hx, hb, hml, hown, hw, hK, hN, hT, hst, hz, hnc, hX, hbl, hstk⟩ := id C0
  have hbA : ¬ (A0 s) b := Nat.not_le.mpr hbl
  have hcs : CE + 1 ≤ room_1.cells ∧ SE + 6 ≤ room_1.slots := ⟨by show _ ≤ 601024; omega, by show _ ≤ 7293033; omega⟩
  refine lv_aload_n hx hb dL_law_1582 rfl (lv_at hl 1 rfl) ?_
  obtain ⟨z, zm, h1, h2, h4, hI9⟩ := O g a gm am hI
  refine lcX (As := []) (rest := []) (k := 0) C0 (c_X11_solve l E g a h1) bw744 bw1245 bw13 bw1246 bw1247 hd_X11_solve ⟨Nat.le_of_ble_eq_true rfl, Nat.le_of_ble_eq_true rfl⟩ hP (va_D.eqv hD rfl) hS rfl hl.1 rfl (Nat.le_of_ble_eq_true rfl) dL_law_1583 ⟨by show _ ≤ 601024; omega, by show _ ≤ 7293033; omega⟩ (fun H locs hP hS => ?_)
  refine lv_aload_n hx hb dL_law_1586 rfl (lv_at hl 2 rfl) ?_
  refine lcM (As := []) (rest := [.int z.1]) (k := 0) C0 (c_X12_solve l (Eq_ E qm) gm am h2) bw967 bw1248 bw778 bw1249 bw1250 hd_X12_solve ⟨Nat.le_of_ble_eq_true rfl, Nat.le_of_ble_eq_true rfl⟩ hP (va_D.eqv hD rfl) hS rfl hl.1 rfl (Nat.le_of_ble_eq_true rfl) dL_law_1587 ⟨by show _ ≤ 601024; omega, by show _ ≤ 7293033; omega⟩ (fun H locs hP hS => ?_)
  refine lv_icmp_eq (tgt := 1719) hx hb dL_law_1590 (by decide) (fun _ => ?_) (fun c9 => absurd h4 c9)
  refine W.widen (k := CE + 2) (n := SE + 54) (by omega) (by omega) ?_
  exact hk g z.2 zm.2 am fo H locs ls hI9 hP hS (lv_sub hl [0, 1, 2, 3, 4] rfl)
set_option maxRecDepth 100000 in
set_option maxHeartbeats 40000000 in
theorem lc_left {p : Program} {l : Launch} {e : Env} {s : State} {m : MethodId} {below : List Frame} {meth : Method} {c : Code} {b L : Nat} {xs : Nat → Int32} {E : xE} (C0 : lwC p l s m c b L xs E) {I : xG → xA → xG → xA → Prop} (O : ob_left I) {g : xG} {a : xA} {gm : xG} {am : xA} (hI : I g a gm am) {i : Nat} {x4 : Int32} (ex4 : x4 = nI i) (hi : i + 5 ≤ L) (hL : L ≤ 2560) {bo : Nat} {fo : Nat → Int64} {qm : Nat → Nat} {H : Heap} {locs : List Loc} {CE SE : Nat} (hCE : CE ≤ 600000) (hSE : SE ≤ 7000000) {Q : State → Prop} (hP : va_P E.1 vwCl (wL E qm g a bo fo gm am) H) (hD : va_D (A0 s) (wL E qm g a bo fo gm am)) (hS : va_S (A0 s) s.heap H locs) {ls : Array Slot} (hl : lv_has ls 8 [(0, .ref b), (1, .ref (E.2.1 0)), (2, .ref ((Eq_ E qm).2.1 0)), (3, .ref bo), (4, .int x4)])
    (hk : ∀ (g : xG) (a : xA) (gm : xG) (am : xA) (fo : Nat → Int64) (H : Heap) (locs : List Loc) (ls : Array Slot), I g a gm am → va_P E.1 vwCl (wL E qm g a bo fo gm am) H → va_S (A0 s) s.heap H locs → lv_has ls 8 [(0, .ref b), (1, .ref (E.2.1 0)), (2, .ref ((Eq_ E qm).2.1 0)), (3, .ref bo), (4, .int x4)] → W p l e room_1 s m #[Value.ref b] below meth c H locs (CE + 2) (SE + 54) Q (F0 m 1719 ls [])) : W p l e room_1 s m #[Value.ref b] below meth c H locs CE SE Q (F0 m 1595 ls []) := by
  obtain ⟨hx, hb, hml, hown, hw, hK, hN, hT, hst, hz, hnc, hX, hbl, hstk⟩ := id C0
  have hbA : ¬ (A0 s) b := Nat.not_le.mpr hbl
  have hcs : CE + 1 ≤ room_1.cells ∧ SE + 6 ≤ room_1.slots := ⟨by show _ ≤ 601024; omega, by show _ ≤ 7293033; omega⟩
  refine lv_aload_n hx hb dL_law_1595 rfl (lv_at hl 1 rfl) ?_
  refine lv_aload_n hx hb dL_law_1596 rfl (lv_at hl 0 rfl) ?_
  refine lv_iload hx hb dL_law_1597 (lv_at hl 4 rfl) ?_
  refine lv_iconst (v := 1) hx hb dL_law_1599 (by decide) ?_
  refine lv_iadd hx hb dL_law_1600 ?_
  refine va_sld hx hb hX hbl hbA hS (law_j ex4 hi hL 1 (by decide)) dL_law_1601 ?_
  refine lv_aload_n hx hb dL_law_1602 rfl (lv_at hl 3 rfl) ?_
  rcases O g a gm am (xs (x4 + 1).toNatClampNeg) hI with ⟨z, zm, h1, h2, h3, h4, hI9⟩ | ⟨z, zm, h1, h5, h2, h3, hI9⟩
  · refine lcW (As := [.ref (E.2.1 0), .int (xs (x4 + 1).toNatClampNeg), .ref bo]) (rest := []) (k := 3) C0 (c_L_left_r l hstk E g a (xs (x4 + 1).toNatClampNeg) bo fo h1) bw1086 bw1251 bw1103 bw1252 hd_L_left ⟨Nat.le_of_ble_eq_true rfl, Nat.le_of_ble_eq_true rfl⟩ hP (va_D.eqv hD rfl) hS rfl hl.1 rfl (Nat.le_of_ble_eq_true rfl) dL_law_1603 ⟨hcs.1, hcs.2⟩ (fun H locs hP hS => ?_)
    refine lv_istore (lv' := [(5, .int 0), (0, .ref b), (1, .ref (E.2.1 0)), (2, .ref ((Eq_ E qm).2.1 0)), (3, .ref bo), (4, .int x4)]) hx hb dL_law_1606 hl (by decide) rfl (fun ls hl => ?_)
    refine lv_aload_n hx hb dL_law_1608 rfl (lv_at hl 3 rfl) ?_
    refine lv_aload_n hx hb dL_law_1609 rfl (lv_at hl 1 rfl) ?_
    refine lv_iload hx hb dL_law_1610 (lv_at hl 5 rfl) ?_
    refine lv_iconst (v := 1) hx hb dL_law_1612 (by decide) ?_
    refine lv_iadd hx hb dL_law_1613 ?_
    refine va_sld hx hb hX hbl hbA hS (law_j ex4 hi hL 1 (by decide)) dL_law_1614 ?_
    refine lcM (As := [.int (xs (x4 + 1).toNatClampNeg)]) (rest := []) (k := 1) C0 (c_X12_left l (Eq_ E qm) gm am (xs (x4 + 1).toNatClampNeg) h2) bw984 bw1253 bw778 bw1254 bw1255 hd_X12_left ⟨Nat.le_of_ble_eq_true rfl, Nat.le_of_ble_eq_true rfl⟩ hP (va_D.eqv hD rfl) hS rfl hl.1 rfl (Nat.le_of_ble_eq_true rfl) dL_law_1615 ⟨by show _ ≤ 601024; omega, by show _ ≤ 7293033; omega⟩ (fun H locs hP hS => ?_)
    refine lv_istore (lv' := [(6, .int zm.1), (5, .int 0), (0, .ref b), (1, .ref (E.2.1 0)), (2, .ref ((Eq_ E qm).2.1 0)), (3, .ref bo), (4, .int x4)]) hx hb dL_law_1618 hl (by decide) rfl (fun ls hl => ?_)
    refine lv_aload_n hx hb dL_law_1620 rfl (lv_at hl 4 rfl) ?_
    refine lcM (As := []) (rest := []) (k := 0) C0 (c_X12_thrown l (Eq_ E qm) zm.2.1 zm.2.2) bw770 bw1107 bw778 bw1108 bw1109 hd_X12_thrown ⟨Nat.le_of_ble_eq_true rfl, Nat.le_of_ble_eq_true rfl⟩ hP (va_D.eqv hD rfl) hS rfl hl.1 rfl (Nat.le_of_ble_eq_true rfl) dL_law_1621 ⟨by show _ ≤ 601024; omega, by show _ ≤ 7293033; omega⟩ (fun H locs hP hS => ?_)
    refine lv_iload hx hb dL_law_1624 (lv_at hl 1 rfl) ?_
    refine lv_icmp_eq (tgt := 1631) hx hb dL_law_1626 (by decide) (fun _ => ?_) (fun c9 => absurd h3 c9)
    refine lv_iload hx hb dL_law_1631 (lv_at hl 1 rfl) ?_
    refine lv_if_ne (tgt := 1648) hx hb dL_law_1633 (by decide) (fun c9 => absurd rfl c9) (fun _ => ?_)
    refine lv_aload_n hx hb dL_law_1636 rfl (lv_at hl 5 rfl) ?_
    refine lv_iconst (v := 0) hx hb dL_law_1637 (by decide) ?_
    refine va_lald hx hb hK hP 54 3 go_L rfl (inB_in (by decide)) dL_law_1638 ?_
    refine lv_iload hx hb dL_law_1639 (lv_at hl 0 rfl) ?_
    refine lv_i2l (v := ((zm.1 : Int32).toInt64)) hx hb dL_law_1641 rfl ?_
    refine W.lcmp hx hb dL_law_1642 ?_
    refine lv_if_eq (tgt := 1648) hx hb dL_law_1643 (by decide) (fun _ => ?_) (fun c9 => absurd (lg_self (congrArg Int32.toInt64 h4)) c9)
    refine lv_goto (tgt := 1719) hx hb dL_law_1648 (by decide) ?_
    refine W.widen (k := CE + 2) (n := SE + 54) (by omega) (by omega) ?_
    exact hk g z.2 zm.2.1 zm.2.2 (vp_updL fo 0 ((z.1 : Int32).toInt64)) H locs ls hI9 hP hS (lv_sub hl [2, 3, 4, 5, 6] rfl)
  · refine lcW (As := [.ref (E.2.1 0), .int (xs (x4 + 1).toNatClampNeg), .ref bo]) (rest := []) (k := 3) C0 (c_L_left_t3 l hstk E g a (xs (x4 + 1).toNatClampNeg) bo fo h1 h5) bw1086 bw1251 bw1103 bw1252 hd_L_left ⟨Nat.le_of_ble_eq_true rfl, Nat.le_of_ble_eq_true rfl⟩ hP (va_D.eqv hD rfl) hS rfl hl.1 rfl (Nat.le_of_ble_eq_true rfl) dL_law_1603 ⟨hcs.1, hcs.2⟩ (fun H locs hP hS => ?_)
    refine lv_istore (lv' := [(5, .int 1), (0, .ref b), (1, .ref (E.2.1 0)), (2, .ref ((Eq_ E qm).2.1 0)), (3, .ref bo), (4, .int x4)]) hx hb dL_law_1606 hl (by decide) rfl (fun ls hl => ?_)
    refine lv_aload_n hx hb dL_law_1608 rfl (lv_at hl 3 rfl) ?_
    refine lv_aload_n hx hb dL_law_1609 rfl (lv_at hl 1 rfl) ?_
    refine lv_iload hx hb dL_law_1610 (lv_at hl 5 rfl) ?_
    refine lv_iconst (v := 1) hx hb dL_law_1612 (by decide) ?_
    refine lv_iadd hx hb dL_law_1613 ?_
    refine va_sld hx hb hX hbl hbA hS (law_j ex4 hi hL 1 (by decide)) dL_law_1614 ?_
    refine lcM (As := [.int (xs (x4 + 1).toNatClampNeg)]) (rest := []) (k := 1) C0 (c_X12_left l (Eq_ E qm) gm am (xs (x4 + 1).toNatClampNeg) h2) bw984 bw1253 bw778 bw1254 bw1255 hd_X12_left ⟨Nat.le_of_ble_eq_true rfl, Nat.le_of_ble_eq_true rfl⟩ hP (va_D.eqv hD rfl) hS rfl hl.1 rfl (Nat.le_of_ble_eq_true rfl) dL_law_1615 ⟨by show _ ≤ 601024; omega, by show _ ≤ 7293033; omega⟩ (fun H locs hP hS => ?_)
    refine lv_istore (lv' := [(6, .int zm.1), (5, .int 1), (0, .ref b), (1, .ref (E.2.1 0)), (2, .ref ((Eq_ E qm).2.1 0)), (3, .ref bo), (4, .int x4)]) hx hb dL_law_1618 hl (by decide) rfl (fun ls hl => ?_)
    refine lv_aload_n hx hb dL_law_1620 rfl (lv_at hl 4 rfl) ?_
    refine lcM (As := []) (rest := []) (k := 0) C0 (c_X12_thrown l (Eq_ E qm) zm.2.1 zm.2.2) bw770 bw1107 bw778 bw1108 bw1109 hd_X12_thrown ⟨Nat.le_of_ble_eq_true rfl, Nat.le_of_ble_eq_true rfl⟩ hP (va_D.eqv hD rfl) hS rfl hl.1 rfl (Nat.le_of_ble_eq_true rfl) dL_law_1621 ⟨by show _ ≤ 601024; omega, by show _ ≤ 7293033; omega⟩ (fun H locs hP hS => ?_)
    refine lv_iload hx hb dL_law_1624 (lv_at hl 1 rfl) ?_
    refine lv_icmp_eq (tgt := 1631) hx hb dL_law_1626 (by decide) (fun _ => ?_) (fun c9 => absurd h3 c9)
    refine lv_iload hx hb dL_law_1631 (lv_at hl 1 rfl) ?_
    refine lv_if_ne (tgt := 1648) hx hb dL_law_1633 (by decide) (fun _ => ?_) (fun c9 => absurd c9 (by decide))
    refine lv_goto (tgt := 1719) hx hb dL_law_1648 (by decide) ?_
    refine W.widen (k := CE + 2) (n := SE + 54) (by omega) (by omega) ?_
    exact hk g z.2 zm.2.1 zm.2.2 fo H locs ls hI9 hP hS (lv_sub hl [2, 3, 4, 5, 6] rfl)
set_option maxRecDepth 100000 in
set_option maxHeartbeats 40000000 in
theorem lc_pairs {p : Program} {l : Launch} {e : Env} {s : State} {m : MethodId} {below : List Frame} {meth : Method} {c : Code} {b L : Nat} {xs : Nat → Int32} {E : xE} (C0 : lwC p l s m c b L xs E) {I : xG → xA → xG → xA → Prop} (O : ob_pairs I) {g : xG} {a : xA} {gm : xG} {am : xA} (hI : I g a gm am) {i : Nat} {x4 : Int32} (ex4 : x4 = nI i) (hi : i + 5 ≤ L) (hL : L ≤ 2560) {bo : Nat} {fo : Nat → Int64} {qm : Nat → Nat} {H : Heap} {locs : List Loc} {CE SE : Nat} (hCE : CE ≤ 600000) (hSE : SE ≤ 7000000) {Q : State → Prop} (hP : va_P E.1 vwCl (wL E qm g a bo fo gm am) H) (hD : va_D (A0 s) (wL E qm g a bo fo gm am)) (hS : va_S (A0 s) s.heap H locs) {ls : Array Slot} (hl : lv_has ls 8 [(0, .ref b), (1, .ref (E.2.1 0)), (2, .ref ((Eq_ E qm).2.1 0)), (3, .ref bo), (4, .int x4)])
    (hk : ∀ (g : xG) (a : xA) (gm : xG) (am : xA) (fo : Nat → Int64) (H : Heap) (locs : List Loc) (ls : Array Slot), I g a gm am → va_P E.1 vwCl (wL E qm g a bo fo gm am) H → va_S (A0 s) s.heap H locs → lv_has ls 8 [(0, .ref b), (1, .ref (E.2.1 0)), (2, .ref ((Eq_ E qm).2.1 0)), (3, .ref bo), (4, .int x4)] → W p l e room_1 s m #[Value.ref b] below meth c H locs (CE + 2) (SE + 54) Q (F0 m 1719 ls [])) : W p l e room_1 s m #[Value.ref b] below meth c H locs CE SE Q (F0 m 1651 ls []) := by
  obtain ⟨hx, hb, hml, hown, hw, hK, hN, hT, hst, hz, hnc, hX, hbl, hstk⟩ := id C0
  have hbA : ¬ (A0 s) b := Nat.not_le.mpr hbl
  have hcs : CE + 1 ≤ room_1.cells ∧ SE + 6 ≤ room_1.slots := ⟨by show _ ≤ 601024; omega, by show _ ≤ 7293033; omega⟩
  refine lv_aload_n hx hb dL_law_1651 rfl (lv_at hl 1 rfl) ?_
  refine lv_aload_n hx hb dL_law_1652 rfl (lv_at hl 0 rfl) ?_
  refine lv_iload hx hb dL_law_1653 (lv_at hl 4 rfl) ?_
  refine lv_iconst (v := 1) hx hb dL_law_1655 (by decide) ?_
  refine lv_iadd hx hb dL_law_1656 ?_
  refine va_sld hx hb hX hbl hbA hS (law_j ex4 hi hL 1 (by decide)) dL_law_1657 ?_
  refine lv_aload_n hx hb dL_law_1658 rfl (lv_at hl 0 rfl) ?_
  refine lv_iload hx hb dL_law_1659 (lv_at hl 4 rfl) ?_
  refine lv_iconst (v := 2) hx hb dL_law_1661 (by decide) ?_
  refine lv_iadd hx hb dL_law_1662 ?_
  refine va_sld hx hb hX hbl hbA hS (law_j ex4 hi hL 2 (by decide)) dL_law_1663 ?_
  refine lv_aload_n hx hb dL_law_1664 rfl (lv_at hl 3 rfl) ?_
  rcases O g a gm am (xs (x4 + 1).toNatClampNeg) (xs (x4 + 2).toNatClampNeg) hI with ⟨z, zm, h1, h2, h3, h4, hI9⟩ | ⟨z, zm, h1, h5, h2, h3, hI9⟩ | ⟨z, zm, h1, h5, h2, h3, hI9⟩
  · refine lcW (As := [.ref (E.2.1 0), .int (xs (x4 + 1).toNatClampNeg), .int (xs (x4 + 2).toNatClampNeg), .ref bo]) (rest := []) (k := 4) C0 (c_L_pairs_r l hstk E g a (xs (x4 + 1).toNatClampNeg) (xs (x4 + 2).toNatClampNeg) bo fo h1) bw1090 bw1256 bw1103 bw1257 hd_L_pairs ⟨Nat.le_of_ble_eq_true rfl, Nat.le_of_ble_eq_true rfl⟩ hP (va_D.eqv hD rfl) hS rfl hl.1 rfl (Nat.le_of_ble_eq_true rfl) dL_law_1665 ⟨hcs.1, hcs.2⟩ (fun H locs hP hS => ?_)
    refine lv_istore (lv' := [(5, .int 0), (0, .ref b), (1, .ref (E.2.1 0)), (2, .ref ((Eq_ E qm).2.1 0)), (3, .ref bo), (4, .int x4)]) hx hb dL_law_1668 hl (by decide) rfl (fun ls hl => ?_)
    refine lv_aload_n hx hb dL_law_1670 rfl (lv_at hl 3 rfl) ?_
    refine lv_aload_n hx hb dL_law_1671 rfl (lv_at hl 1 rfl) ?_
    refine lv_iload hx hb dL_law_1672 (lv_at hl 5 rfl) ?_
    refine lv_iconst (v := 1) hx hb dL_law_1674 (by decide) ?_
    refine lv_iadd hx hb dL_law_1675 ?_
    refine va_sld hx hb hX hbl hbA hS (law_j ex4 hi hL 1 (by decide)) dL_law_1676 ?_
    refine lv_aload_n hx hb dL_law_1677 rfl (lv_at hl 1 rfl) ?_
    refine lv_iload hx hb dL_law_1678 (lv_at hl 5 rfl) ?_
    refine lv_iconst (v := 2) hx hb dL_law_1680 (by decide) ?_
    refine lv_iadd hx hb dL_law_1681 ?_
    refine va_sld hx hb hX hbl hbA hS (law_j ex4 hi hL 2 (by decide)) dL_law_1682 ?_
    refine lcM (As := [.int (xs (x4 + 1).toNatClampNeg), .int (xs (x4 + 2).toNatClampNeg)]) (rest := []) (k := 2) C0 (c_X12_pairs l (Eq_ E qm) gm am (xs (x4 + 1).toNatClampNeg) (xs (x4 + 2).toNatClampNeg) h2) bw997 bw1258 bw778 bw1259 bw1260 hd_X12_pairs ⟨Nat.le_of_ble_eq_true rfl, Nat.le_of_ble_eq_true rfl⟩ hP (va_D.eqv hD rfl) hS rfl hl.1 rfl (Nat.le_of_ble_eq_true rfl) dL_law_1683 ⟨by show _ ≤ 601024; omega, by show _ ≤ 7293033; omega⟩ (fun H locs hP hS => ?_)
    refine lv_istore (lv' := [(6, .int zm.1), (5, .int 0), (0, .ref b), (1, .ref (E.2.1 0)), (2, .ref ((Eq_ E qm).2.1 0)), (3, .ref bo), (4, .int x4)]) hx hb dL_law_1686 hl (by decide) rfl (fun ls hl => ?_)
    refine lv_aload_n hx hb dL_law_1688 rfl (lv_at hl 4 rfl) ?_
    refine lcM (As := []) (rest := []) (k := 0) C0 (c_X12_thrown l (Eq_ E qm) zm.2.1 zm.2.2) bw770 bw1107 bw778 bw1108 bw1109 hd_X12_thrown ⟨Nat.le_of_ble_eq_true rfl, Nat.le_of_ble_eq_true rfl⟩ hP (va_D.eqv hD rfl) hS rfl hl.1 rfl (Nat.le_of_ble_eq_true rfl) dL_law_1689 ⟨by show _ ≤ 601024; omega, by show _ ≤ 7293033; omega⟩ (fun H locs hP hS => ?_)
    refine lv_iload hx hb dL_law_1692 (lv_at hl 1 rfl) ?_
    refine lv_icmp_eq (tgt := 1699) hx hb dL_law_1694 (by decide) (fun _ => ?_) (fun c9 => absurd h3 c9)
    refine lv_iload hx hb dL_law_1699 (lv_at hl 1 rfl) ?_
    refine lv_if_ne (tgt := 1716) hx hb dL_law_1701 (by decide) (fun c9 => absurd rfl c9) (fun _ => ?_)
    refine lv_aload_n hx hb dL_law_1704 rfl (lv_at hl 5 rfl) ?_
    refine lv_iconst (v := 0) hx hb dL_law_1705 (by decide) ?_
    refine va_lald hx hb hK hP 54 3 go_L rfl (inB_in (by decide)) dL_law_1706 ?_
    refine lv_iload hx hb dL_law_1707 (lv_at hl 0 rfl) ?_
    refine lv_i2l (v := ((zm.1 : Int32).toInt64)) hx hb dL_law_1709 rfl ?_
    refine W.lcmp hx hb dL_law_1710 ?_
    refine lv_if_eq (tgt := 1716) hx hb dL_law_1711 (by decide) (fun _ => ?_) (fun c9 => absurd (lg_self (congrArg Int32.toInt64 h4)) c9)
    refine lv_goto (tgt := 1719) hx hb dL_law_1716 (by decide) ?_
    refine W.widen (k := CE + 2) (n := SE + 54) (by omega) (by omega) ?_
    exact hk g z.2 zm.2.1 zm.2.2 (vp_updL fo 0 ((z.1 : Int32).toInt64)) H locs ls hI9 hP hS (lv_sub hl [2, 3, 4, 5, 6] rfl)
  · refine lcW (As := [.ref (E.2.1 0), .int (xs (x4 + 1).toNatClampNeg), .int (xs (x4 + 2).toNatClampNeg), .ref bo]) (rest := []) (k := 4) C0 (c_L_pairs_t3 l hstk E g a (xs (x4 + 1).toNatClampNeg) (xs (x4 + 2).toNatClampNeg) bo fo h1 h5) bw1090 bw1256 bw1103 bw1257 hd_L_pairs ⟨Nat.le_of_ble_eq_true rfl, Nat.le_of_ble_eq_true rfl⟩ hP (va_D.eqv hD rfl) hS rfl hl.1 rfl (Nat.le_of_ble_eq_true rfl) dL_law_1665 ⟨hcs.1, hcs.2⟩ (fun H locs hP hS => ?_)
    refine lv_istore (lv' := [(5, .int 1), (0, .ref b), (1, .ref (E.2.1 0)), (2, .ref ((Eq_ E qm).2.1 0)), (3, .ref bo), (4, .int x4)]) hx hb dL_law_1668 hl (by decide) rfl (fun ls hl => ?_)
    refine lv_aload_n hx hb dL_law_1670 rfl (lv_at hl 3 rfl) ?_
    refine lv_aload_n hx hb dL_law_1671 rfl (lv_at hl 1 rfl) ?_
    refine lv_iload hx hb dL_law_1672 (lv_at hl 5 rfl) ?_
    refine lv_iconst (v := 1) hx hb dL_law_1674 (by decide) ?_
    refine lv_iadd hx hb dL_law_1675 ?_
    refine va_sld hx hb hX hbl hbA hS (law_j ex4 hi hL 1 (by decide)) dL_law_1676 ?_
    refine lv_aload_n hx hb dL_law_1677 rfl (lv_at hl 1 rfl) ?_
    refine lv_iload hx hb dL_law_1678 (lv_at hl 5 rfl) ?_
    refine lv_iconst (v := 2) hx hb dL_law_1680 (by decide) ?_
    refine lv_iadd hx hb dL_law_1681 ?_
    refine va_sld hx hb hX hbl hbA hS (law_j ex4 hi hL 2 (by decide)) dL_law_1682 ?_
    refine lcM (As := [.int (xs (x4 + 1).toNatClampNeg), .int (xs (x4 + 2).toNatClampNeg)]) (rest := []) (k := 2) C0 (c_X12_pairs l (Eq_ E qm) gm am (xs (x4 + 1).toNatClampNeg) (xs (x4 + 2).toNatClampNeg) h2) bw997 bw1258 bw778 bw1259 bw1260 hd_X12_pairs ⟨Nat.le_of_ble_eq_true rfl, Nat.le_of_ble_eq_true rfl⟩ hP (va_D.eqv hD rfl) hS rfl hl.1 rfl (Nat.le_of_ble_eq_true rfl) dL_law_1683 ⟨by show _ ≤ 601024; omega, by show _ ≤ 7293033; omega⟩ (fun H locs hP hS => ?_)
    refine lv_istore (lv' := [(6, .int zm.1), (5, .int 1), (0, .ref b), (1, .ref (E.2.1 0)), (2, .ref ((Eq_ E qm).2.1 0)), (3, .ref bo), (4, .int x4)]) hx hb dL_law_1686 hl (by decide) rfl (fun ls hl => ?_)
    refine lv_aload_n hx hb dL_law_1688 rfl (lv_at hl 4 rfl) ?_
    refine lcM (As := []) (rest := []) (k := 0) C0 (c_X12_thrown l (Eq_ E qm) zm.2.1 zm.2.2) bw770 bw1107 bw778 bw1108 bw1109 hd_X12_thrown ⟨Nat.le_of_ble_eq_true rfl, Nat.le_of_ble_eq_true rfl⟩ hP (va_D.eqv hD rfl) hS rfl hl.1 rfl (Nat.le_of_ble_eq_true rfl) dL_law_1689 ⟨by show _ ≤ 601024; omega, by show _ ≤ 7293033; omega⟩ (fun H locs hP hS => ?_)
    refine lv_iload hx hb dL_law_1692 (lv_at hl 1 rfl) ?_
    refine lv_icmp_eq (tgt := 1699) hx hb dL_law_1694 (by decide) (fun _ => ?_) (fun c9 => absurd h3 c9)
    refine lv_iload hx hb dL_law_1699 (lv_at hl 1 rfl) ?_
    refine lv_if_ne (tgt := 1716) hx hb dL_law_1701 (by decide) (fun _ => ?_) (fun c9 => absurd c9 (by decide))
    refine lv_goto (tgt := 1719) hx hb dL_law_1716 (by decide) ?_
    refine W.widen (k := CE + 2) (n := SE + 54) (by omega) (by omega) ?_
    exact hk g z.2 zm.2.1 zm.2.2 fo H locs ls hI9 hP hS (lv_sub hl [2, 3, 4, 5, 6] rfl)
  · refine lcW (As := [.ref (E.2.1 0), .int (xs (x4 + 1).toNatClampNeg), .int (xs (x4 + 2).toNatClampNeg), .ref bo]) (rest := []) (k := 4) C0 (c_L_pairs_t1 l hstk E g a (xs (x4 + 1).toNatClampNeg) (xs (x4 + 2).toNatClampNeg) bo fo h1 h5) bw1090 bw1256 bw1103 bw1257 hd_L_pairs ⟨Nat.le_of_ble_eq_true rfl, Nat.le_of_ble_eq_true rfl⟩ hP (va_D.eqv hD rfl) hS rfl hl.1 rfl (Nat.le_of_ble_eq_true rfl) dL_law_1665 ⟨hcs.1, hcs.2⟩ (fun H locs hP hS => ?_)
    refine lv_istore (lv' := [(5, .int 2), (0, .ref b), (1, .ref (E.2.1 0)), (2, .ref ((Eq_ E qm).2.1 0)), (3, .ref bo), (4, .int x4)]) hx hb dL_law_1668 hl (by decide) rfl (fun ls hl => ?_)
    refine lv_aload_n hx hb dL_law_1670 rfl (lv_at hl 3 rfl) ?_
    refine lv_aload_n hx hb dL_law_1671 rfl (lv_at hl 1 rfl) ?_
    refine lv_iload hx hb dL_law_1672 (lv_at hl 5 rfl) ?_
    refine lv_iconst (v := 1) hx hb dL_law_1674 (by decide) ?_
    refine lv_iadd hx hb dL_law_1675 ?_
    refine va_sld hx hb hX hbl hbA hS (law_j ex4 hi hL 1 (by decide)) dL_law_1676 ?_
    refine lv_aload_n hx hb dL_law_1677 rfl (lv_at hl 1 rfl) ?_
    refine lv_iload hx hb dL_law_1678 (lv_at hl 5 rfl) ?_
    refine lv_iconst (v := 2) hx hb dL_law_1680 (by decide) ?_
    refine lv_iadd hx hb dL_law_1681 ?_
    refine va_sld hx hb hX hbl hbA hS (law_j ex4 hi hL 2 (by decide)) dL_law_1682 ?_
    refine lcM (As := [.int (xs (x4 + 1).toNatClampNeg), .int (xs (x4 + 2).toNatClampNeg)]) (rest := []) (k := 2) C0 (c_X12_pairs l (Eq_ E qm) gm am (xs (x4 + 1).toNatClampNeg) (xs (x4 + 2).toNatClampNeg) h2) bw997 bw1258 bw778 bw1259 bw1260 hd_X12_pairs ⟨Nat.le_of_ble_eq_true rfl, Nat.le_of_ble_eq_true rfl⟩ hP (va_D.eqv hD rfl) hS rfl hl.1 rfl (Nat.le_of_ble_eq_true rfl) dL_law_1683 ⟨by show _ ≤ 601024; omega, by show _ ≤ 7293033; omega⟩ (fun H locs hP hS => ?_)
    refine lv_istore (lv' := [(6, .int zm.1), (5, .int 2), (0, .ref b), (1, .ref (E.2.1 0)), (2, .ref ((Eq_ E qm).2.1 0)), (3, .ref bo), (4, .int x4)]) hx hb dL_law_1686 hl (by decide) rfl (fun ls hl => ?_)
    refine lv_aload_n hx hb dL_law_1688 rfl (lv_at hl 4 rfl) ?_
    refine lcM (As := []) (rest := []) (k := 0) C0 (c_X12_thrown l (Eq_ E qm) zm.2.1 zm.2.2) bw770 bw1107 bw778 bw1108 bw1109 hd_X12_thrown ⟨Nat.le_of_ble_eq_true rfl, Nat.le_of_ble_eq_true rfl⟩ hP (va_D.eqv hD rfl) hS rfl hl.1 rfl (Nat.le_of_ble_eq_true rfl) dL_law_1689 ⟨by show _ ≤ 601024; omega, by show _ ≤ 7293033; omega⟩ (fun H locs hP hS => ?_)
    refine lv_iload hx hb dL_law_1692 (lv_at hl 1 rfl) ?_
    refine lv_icmp_eq (tgt := 1699) hx hb dL_law_1694 (by decide) (fun _ => ?_) (fun c9 => absurd h3 c9)
    refine lv_iload hx hb dL_law_1699 (lv_at hl 1 rfl) ?_
    refine lv_if_ne (tgt := 1716) hx hb dL_law_1701 (by decide) (fun _ => ?_) (fun c9 => absurd c9 (by decide))
    refine lv_goto (tgt := 1719) hx hb dL_law_1716 (by decide) ?_
    refine W.widen (k := CE + 2) (n := SE + 54) (by omega) (by omega) ?_
    exact hk g z.2 zm.2.1 zm.2.2 fo H locs ls hI9 hP hS (lv_sub hl [2, 3, 4, 5, 6] rfl)
