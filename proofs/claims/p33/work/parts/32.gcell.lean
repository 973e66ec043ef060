/-! A place of the script: the law's own method. -/
theorem hd_L_cell : yL_cell.cls ≠ "java/lang/invoke/MethodHandle" ∧ yL_cell.cls ≠ "java/lang/invoke/VarHandle" ∧ (parseMethodDescriptor yL_cell.desc).map (fun d => d.parameters.length) = some 2 := by decide +kernel
theorem hd_L_relates : yL_relates.cls ≠ "java/lang/invoke/MethodHandle" ∧ yL_relates.cls ≠ "java/lang/invoke/VarHandle" ∧ (parseMethodDescriptor yL_relates.desc).map (fun d => d.parameters.length) = some 2 := by decide +kernel
theorem hd_L_takes : yL_takes.cls ≠ "java/lang/invoke/MethodHandle" ∧ yL_takes.cls ≠ "java/lang/invoke/VarHandle" ∧ (parseMethodDescriptor yL_takes.desc).map (fun d => d.parameters.length) = some 2 := by decide +kernel
theorem hd_L_puts : yL_puts.cls ≠ "java/lang/invoke/MethodHandle" ∧ yL_puts.cls ≠ "java/lang/invoke/VarHandle" ∧ (parseMethodDescriptor yL_puts.desc).map (fun d => d.parameters.length) = some 4 := by decide +kernel
theorem hd_L_tells : yL_tells.cls ≠ "java/lang/invoke/MethodHandle" ∧ yL_tells.cls ≠ "java/lang/invoke/VarHandle" ∧ (parseMethodDescriptor yL_tells.desc).map (fun d => d.parameters.length) = some 4 := by decide +kernel
theorem hd_L_constrains : yL_constrains.cls ≠ "java/lang/invoke/MethodHandle" ∧ yL_constrains.cls ≠ "java/lang/invoke/VarHandle" ∧ (parseMethodDescriptor yL_constrains.desc).map (fun d => d.parameters.length) = some 5 := by decide +kernel
theorem hd_L_types : yL_types.cls ≠ "java/lang/invoke/MethodHandle" ∧ yL_types.cls ≠ "java/lang/invoke/VarHandle" ∧ (parseMethodDescriptor yL_types.desc).map (fun d => d.parameters.length) = some 5 := by decide +kernel
theorem hd_L_ends : yL_ends.cls ≠ "java/lang/invoke/MethodHandle" ∧ yL_ends.cls ≠ "java/lang/invoke/VarHandle" ∧ (parseMethodDescriptor yL_ends.desc).map (fun d => d.parameters.length) = some 2 := by decide +kernel
theorem hd_L_defines : yL_defines.cls ≠ "java/lang/invoke/MethodHandle" ∧ yL_defines.cls ≠ "java/lang/invoke/VarHandle" ∧ (parseMethodDescriptor yL_defines.desc).map (fun d => d.parameters.length) = some 1 := by decide +kernel
theorem hd_L_surrounds : yL_surrounds.cls ≠ "java/lang/invoke/MethodHandle" ∧ yL_surrounds.cls ≠ "java/lang/invoke/VarHandle" ∧ (parseMethodDescriptor yL_surrounds.desc).map (fun d => d.parameters.length) = some 2 := by decide +kernel
theorem hd_L_surrounded : yL_surrounded.cls ≠ "java/lang/invoke/MethodHandle" ∧ yL_surrounded.cls ≠ "java/lang/invoke/VarHandle" ∧ (parseMethodDescriptor yL_surrounded.desc).map (fun d => d.parameters.length) = some 2 := by decide +kernel
theorem hd_L_formula : yL_formula.cls ≠ "java/lang/invoke/MethodHandle" ∧ yL_formula.cls ≠ "java/lang/invoke/VarHandle" ∧ (parseMethodDescriptor yL_formula.desc).map (fun d => d.parameters.length) = some 4 := by decide +kernel
def cellP (b L : Nat) (xs : Nat → Int32) (k : Int32) : Array Value → State → Prop := va_Pc [.ref b, .int k] (fun U => va_X b L xs U U.heap ∧ b < U.heap.size)
theorem cellP.blind {b L : Nat} {xs : Nat → Int32} {k : Int32} : FrameBlind (cellP b L xs k) := fun _ U g mk h => ⟨h.1, va_X.moved (u := U) (U := U.calling g mk _) (Vm.Alike.refl U.vm) h.2.1, h.2.2⟩
set_option maxRecDepth 100000 in
theorem c_L_cell (l : Launch) {b L : Nat} {xs : Nat → Int32} (hL : L ≤ 260) {k : Int32} (hk : inB k 300 = true) : Met l yL_cell (.code yL_cell cL_cell 2 (some .int) :: BW) ({ frames := 0, cells := 0, slots := 0, locals := 0 }) (cellP b L xs k) (va_Qi (fun (r : Int32) (_ : Unit) => r = cellF L xs k) (fun _ _ => True) (fun _ => False)) 0 0 (fun _ => False) := by
  refine Met.ofW (cc := cL_cell) (maxL := 2) (ret := some .int) (by decide) rfl ?_
  intro p e s m args below meth c s₁ B hml hv
  obtain ⟨rfl, hX, hbl⟩ := hv
  have hl := lv_entry ([.ref b, .int k] : List Value) (n := 2) (Nat.le_of_ble_eq_true rfl)
  rw [lg_entry_eq]
  generalize (lg_sl ([.ref b, .int k] : List Value) ++ List.replicate (2 - (lg_sl ([.ref b, .int k] : List Value)).length) Slot.unset).toArray = ls at hl ⊢
  have hx := B.exec
  have hb := B.bytes
  have hr := B.returns
  have hts := atoms_spec (ws := Cond.code yL_cell cL_cell 2 (some .int) :: BW) B.pre
  have hw : ∀ w ∈ BW, w.before _ s = true := fun w h => hts w (List.mem_cons_of_mem _ h)
  have hown : s.vm.findClass RL = some m.cls := findClass_of_methodNamed B.named
  have hS : va_S (fun _ => False) s.heap s.heap [] := va_S.rf
  have hbA : ¬ (fun _ : Nat => False) b := fun h => h
  have hl : lv_has ls 2 [(0, .ref b), (1, .int k)] := hl
  refine lv_iload_n hx hb dL_cell_0 rfl (lv_at hl 1 rfl) ?_
  refine lv_aload_n hx hb dL_cell_1 rfl (lv_at hl 0 rfl) ?_
  refine va_slen hx hb hX hbl hbA hS dL_cell_2 ?_
  refine lv_icmp_ge (tgt := 12) hx hb dL_cell_3 (by decide) (fun c1 => ?_) (fun c1 => ?_)
  · refine lv_ldc hx hb hown (hw _ bw733) dL_cell_12 ?_
    refine lv_iload_n hx hb dL_cell_14 rfl (lv_at hl 1 rfl) ?_
    refine lv_imul hx hb dL_cell_15 ?_
    refine lv_sipush (v := 977) hx hb dL_cell_16 (by decide) ?_
    refine lv_iadd hx hb dL_cell_19 ?_
    exact W.iret (v := 40503 * k + 977) hx hb hr (fun t ht _ => ⟨⟨40503 * k + 977, (), rfl, (if_pos c1).symm, trivial⟩, hS.F ht⟩) hS.2.2 dL_cell_20
  · refine lv_aload_n hx hb dL_cell_6 rfl (lv_at hl 0 rfl) ?_
    refine lv_iload_n hx hb dL_cell_7 rfl (lv_at hl 1 rfl) ?_
    refine va_sld hx hb hX hbl hbA hS (cell_in hL hk c1) dL_cell_8 ?_
    refine lv_goto (tgt := 20) hx hb dL_cell_9 (by decide) ?_
    exact W.iret (v := xs k.toNatClampNeg) hx hb hr (fun t ht _ => ⟨⟨xs k.toNatClampNeg, (), rfl, (if_neg c1).symm, trivial⟩, hS.F ht⟩) hS.2.2 dL_cell_20
theorem gcell {p : Program} {l : Launch} {e : Env} {R : Room} {s : State} {m : MethodId} {args : Array Value} {below : List Frame} {meth : Method} {c : Code} {H : Heap} {locs : List Loc} {cells slots : Nat} {Q : State → Prop} {cc : ByteArray} {pc nL index : Nat} {ls : Array Slot} {rest : List Value} {E : xE} {A : Nat → Prop} {w0 : va_W} {b L : Nat} {xs : Nat → Int32} {k : Int32}
    (C0 : gC p l s m c cc nL args E A) (hL : L ≤ 260) (hX : va_X b L xs s s.heap) (hbl : b < s.heap.size) (hbA : ¬ A b) (hk : inB k 300 = true) (hlink : Cond.methodLink RL index yL_cell ∈ BW) (hR : 1 ≤ R.frames ∧ 8 + (2 + 11) ≤ R.locals)
    (hP : va_P E.1 vwCl w0 H) (hS : va_S A s.heap H locs) (hsize : ls.size = nL) (hW : (rest.map fun v => v.category).sum ≤ 8) (hdg : decode cc pc = .ok (.invokestatic index, 3)) (hf : cells ≤ R.cells ∧ slots ≤ R.slots)
    (kk : ∀ (H1 : Heap) (locs1 : List Loc), va_P E.1 vwCl w0 H1 → va_S A s.heap H1 locs1 → W p l e R s m args below meth c H1 locs1 cells slots Q (F0 m (pc + 3) ls (.int (cellF L xs k) :: rest))) : W p l e R s m args below meth c H locs cells slots Q (F0 m pc ls (.int k :: .ref b :: rest)) := by
  obtain ⟨hx, hb, hml, hown, hw, hA, hK, hN, -, -, -, -, -⟩ := id C0
  have hr := va_runS (R := R) (e := e) (below := below) (meth := meth) (H := H) (locs := locs) (cells := cells) (slots := slots) (Ts := BW) (As := [.ref b, .int k]) (rest := rest) (g := F0 m pc ls (.int k :: .ref b :: rest)) ⟨hx, hb, hml, hown, hw⟩ (c_L_cell l hL (b := b) (xs := xs) hk) ⟨gB hw bw732 hlink bw742 hd_L_cell hR, hw _ bw854⟩ ⟨cellP.blind, fun U hU hW => ⟨rfl, by rw [hU]; exact (hX.kept (hS.2.1 b hbl hbA)).moved hW.alike, by rw [hU]; exact Nat.lt_of_lt_of_le hbl hS.1⟩⟩ rfl rfl hsize rfl (lv_room hW) hdg hf
  exact va_calli hr hS (fun _ _ h => h.elim) (fun _ h => h.elim) (fun r1 _ t H1 locs1 ht _ hp _ _ hk1 hS1 => by
    subst hp
    exact kk H1 locs1 (hP.kept (fun k q hq => hk1 q.1 (hP k q hq).lt (fun h => h))) hS1)
