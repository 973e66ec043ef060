/-! The law's calls of the class: each returns or is caught. -/
theorem thP.cast {U : State} {args : Array Value} (h : thP U) : ∀ c : Nat, 1 ≤ c → c ≤ 3 → (Cond.castable (exN c) (exN c)).before args U = true := by
  have h1 : Cond.castable (exN 1) (exN 1) ∈ THl := by decide +kernel
  have h2 : Cond.castable (exN 2) (exN 2) ∈ THl := by decide +kernel
  have h3 : Cond.castable (exN 3) (exN 3) ∈ THl := by decide +kernel
  intro c hc hc2
  match c, hc, hc2 with
  | 1, _, _ => exact va_Nw.use (THl_face _ h1).2 (h _ h1)
  | 2, _, _ => exact va_Nw.use (THl_face _ h2).2 (h _ h2)
  | 3, _, _ => exact va_Nw.use (THl_face _ h3).2 (h _ h3)
theorem hd_L_values : yL_values.cls ≠ "java/lang/invoke/MethodHandle" ∧ yL_values.cls ≠ "java/lang/invoke/VarHandle" ∧ (parseMethodDescriptor yL_values.desc).map (fun d => d.parameters.length) = some 3 := by decide +kernel
theorem hd_L_relation : yL_relation.cls ≠ "java/lang/invoke/MethodHandle" ∧ yL_relation.cls ≠ "java/lang/invoke/VarHandle" ∧ (parseMethodDescriptor yL_relation.desc).map (fun d => d.parameters.length) = some 3 := by decide +kernel
theorem hd_L_tuple : yL_tuple.cls ≠ "java/lang/invoke/MethodHandle" ∧ yL_tuple.cls ≠ "java/lang/invoke/VarHandle" ∧ (parseMethodDescriptor yL_tuple.desc).map (fun d => d.parameters.length) = some 5 := by decide +kernel
theorem hd_L_ofRelation : yL_ofRelation.cls ≠ "java/lang/invoke/MethodHandle" ∧ yL_ofRelation.cls ≠ "java/lang/invoke/VarHandle" ∧ (parseMethodDescriptor yL_ofRelation.desc).map (fun d => d.parameters.length) = some 4 := by decide +kernel
theorem hd_L_operation : yL_operation.cls ≠ "java/lang/invoke/MethodHandle" ∧ yL_operation.cls ≠ "java/lang/invoke/VarHandle" ∧ (parseMethodDescriptor yL_operation.desc).map (fun d => d.parameters.length) = some 3 := by decide +kernel
theorem hd_L_make : yL_make.cls ≠ "java/lang/invoke/MethodHandle" ∧ yL_make.cls ≠ "java/lang/invoke/VarHandle" ∧ (parseMethodDescriptor yL_make.desc).map (fun d => d.parameters.length) = some 3 := by decide +kernel
theorem hd_L_answers : yL_answers.cls ≠ "java/lang/invoke/MethodHandle" ∧ yL_answers.cls ≠ "java/lang/invoke/VarHandle" ∧ (parseMethodDescriptor yL_answers.desc).map (fun d => d.parameters.length) = some 5 := by decide +kernel
theorem hd_L_code : yL_code.cls ≠ "java/lang/invoke/MethodHandle" ∧ yL_code.cls ≠ "java/lang/invoke/VarHandle" ∧ (parseMethodDescriptor yL_code.desc).map (fun d => d.parameters.length) = some 3 := by decide +kernel
theorem hd_L_keeps : yL_keeps.cls ≠ "java/lang/invoke/MethodHandle" ∧ yL_keeps.cls ≠ "java/lang/invoke/VarHandle" ∧ (parseMethodDescriptor yL_keeps.desc).map (fun d => d.parameters.length) = some 4 := by decide +kernel
theorem hd_L_breaks : yL_breaks.cls ≠ "java/lang/invoke/MethodHandle" ∧ yL_breaks.cls ≠ "java/lang/invoke/VarHandle" ∧ (parseMethodDescriptor yL_breaks.desc).map (fun d => d.parameters.length) = some 4 := by decide +kernel
theorem hd_L_has : yL_has.cls ≠ "java/lang/invoke/MethodHandle" ∧ yL_has.cls ≠ "java/lang/invoke/VarHandle" ∧ (parseMethodDescriptor yL_has.desc).map (fun d => d.parameters.length) = some 4 := by decide +kernel
theorem hd_L_closed : yL_closed.cls ≠ "java/lang/invoke/MethodHandle" ∧ yL_closed.cls ≠ "java/lang/invoke/VarHandle" ∧ (parseMethodDescriptor yL_closed.desc).map (fun d => d.parameters.length) = some 4 := by decide +kernel
theorem hd_L_binary : yL_binary.cls ≠ "java/lang/invoke/MethodHandle" ∧ yL_binary.cls ≠ "java/lang/invoke/VarHandle" ∧ (parseMethodDescriptor yL_binary.desc).map (fun d => d.parameters.length) = some 2 := by decide +kernel
theorem hd_L_kept : yL_kept.cls ≠ "java/lang/invoke/MethodHandle" ∧ yL_kept.cls ≠ "java/lang/invoke/VarHandle" ∧ (parseMethodDescriptor yL_kept.desc).map (fun d => d.parameters.length) = some 3 := by decide +kernel
theorem hd_L_first : yL_first.cls ≠ "java/lang/invoke/MethodHandle" ∧ yL_first.cls ≠ "java/lang/invoke/VarHandle" ∧ (parseMethodDescriptor yL_first.desc).map (fun d => d.parameters.length) = some 3 := by decide +kernel
theorem hd_L_around : yL_around.cls ≠ "java/lang/invoke/MethodHandle" ∧ yL_around.cls ≠ "java/lang/invoke/VarHandle" ∧ (parseMethodDescriptor yL_around.desc).map (fun d => d.parameters.length) = some 3 := by decide +kernel
theorem hd_L_type : yL_type.cls ≠ "java/lang/invoke/MethodHandle" ∧ yL_type.cls ≠ "java/lang/invoke/VarHandle" ∧ (parseMethodDescriptor yL_type.desc).map (fun d => d.parameters.length) = some 4 := by decide +kernel
theorem hd_L_define : yL_define.cls ≠ "java/lang/invoke/MethodHandle" ∧ yL_define.cls ≠ "java/lang/invoke/VarHandle" ∧ (parseMethodDescriptor yL_define.desc).map (fun d => d.parameters.length) = some 2 := by decide +kernel
theorem hd_L_instance : yL_instance.cls ≠ "java/lang/invoke/MethodHandle" ∧ yL_instance.cls ≠ "java/lang/invoke/VarHandle" ∧ (parseMethodDescriptor yL_instance.desc).map (fun d => d.parameters.length) = some 3 := by decide +kernel
theorem hd_L_constrain : yL_constrain.cls ≠ "java/lang/invoke/MethodHandle" ∧ yL_constrain.cls ≠ "java/lang/invoke/VarHandle" ∧ (parseMethodDescriptor yL_constrain.desc).map (fun d => d.parameters.length) = some 6 := by decide +kernel
theorem hd_L_left : yL_left.cls ≠ "java/lang/invoke/MethodHandle" ∧ yL_left.cls ≠ "java/lang/invoke/VarHandle" ∧ (parseMethodDescriptor yL_left.desc).map (fun d => d.parameters.length) = some 3 := by decide +kernel
theorem hd_L_pairs : yL_pairs.cls ≠ "java/lang/invoke/MethodHandle" ∧ yL_pairs.cls ≠ "java/lang/invoke/VarHandle" ∧ (parseMethodDescriptor yL_pairs.desc).map (fun d => d.parameters.length) = some 4 := by decide +kernel
set_option maxRecDepth 100000 in
set_option maxHeartbeats 40000000 in
theorem c_L_values_r (l : Launch) (hstk : l.stackTraces = false) (E : xE) (g : xG) (a : xA) (v1 : Int32) (bo : Nat) (fo : Nat → Int64) {z : Int32 × xG × xA} (hf : f_X11_values g a v1 = some (.inr z)) : xW l E yL_values cL_values 4 [(0, 9, 12, 13)] 7 112 [.ref (E.2.1 0), .int v1, .ref bo] (wX E g a ++ oC E bo fo) 0 (wX E z.2.1 z.2.2 ++ oC E bo (vp_updL fo 0 ((z.1 : Int32).toInt64))) := by
  refine xW_of (by decide) (Nat.le_of_ble_eq_true rfl) ?_
  intro p e s m below meth c A hx hb hr hml hts hown hlocks htab hA hD hP hK hN hT hst hz hnc hS ls hl
  have hw : ∀ w ∈ BW, w.before _ s = true := fun w h => hts w (List.mem_cons_of_mem _ h)
  have hl : lv_has ls 4 [(0, .ref (E.2.1 0)), (1, .int v1), (2, .ref bo)] := hl
  refine lv_aload_n hx hb dL_values_0 rfl (lv_at hl 2 rfl) ?_
  refine lv_iconst (v := 0) hx hb dL_values_1 (by decide) ?_
  refine lv_aload_n hx hb dL_values_2 rfl (lv_at hl 0 rfl) ?_
  refine lv_iload_n hx hb dL_values_3 rfl (lv_at hl 1 rfl) ?_
  refine xtciF (xRunTF (wr := oC E bo fo) (As := [.int v1]) (rest := [.int 0, .ref bo]) (C := RX11) (k := 1) hx hb hml hown hts hA hK hN hT hst hz (c_X11_values l hstk E g a v1 hf) bw603 bw1001 bw13 bw1002 bw1003 ⟨rfl, hd_X11_values⟩ ⟨Nat.le_of_ble_eq_true rfl, Nat.le_of_ble_eq_true rfl⟩ hP hD hS (va_recv hK (frP0 hP) (ci := 11) rfl (gx_0 E g a)) rfl hl.1 rfl (Nat.le_of_ble_eq_true rfl) dL_values_4 ⟨Nat.le_of_ble_eq_true rfl, Nat.le_of_ble_eq_true rfl⟩) hP hS (fun z1 hz1 => by cases hz1) (fun z1 hz1 H locs hP hS => ?_)
  cases hz1
  refine lv_i2l (v := ((z.1 : Int32).toInt64)) hx hb dL_values_7 rfl ?_
  refine va_last hx hb hK hP (va_D.eqv hD rfl) hS 54 3 (go_out E z.2.1 z.2.2 bo fo) rfl (inB_in (by decide)) dL_values_8 (fun H locs hP _ hS => ?_)
  have hP := xP_eq (so_out E z.2.1 z.2.2 bo fo (vp_updL fo 0 ((z.1 : Int32).toInt64))) hP
  refine lv_goto (tgt := 15) hx hb dL_values_9 (by decide) ?_
  refine lv_iconst (v := 0) hx hb dL_values_15 (by decide) ?_
  exact xw_ret hx hb hr hlocks hP hS (Nat.le_refl _) (Nat.le_refl _) dL_values_16
set_option maxRecDepth 100000 in
set_option maxHeartbeats 40000000 in
theorem c_L_values_t1 (l : Launch) (hstk : l.stackTraces = false) (E : xE) (g : xG) (a : xA) (v1 : Int32) (bo : Nat) (fo : Nat → Int64) {z : Nat × xG × xA} (hf : f_X11_values g a v1 = some (.inl z)) (hz9 : z.1 = 1) : xW l E yL_values cL_values 4 [(0, 9, 12, 13)] 7 112 [.ref (E.2.1 0), .int v1, .ref bo] (wX E g a ++ oC E bo fo) 1 (wX E z.2.1 z.2.2 ++ oC E bo fo) := by
  refine xW_of (by decide) (Nat.le_of_ble_eq_true rfl) ?_
  intro p e s m below meth c A hx hb hr hml hts hown hlocks htab hA hD hP hK hN hT hst hz hnc hS ls hl
  have hw : ∀ w ∈ BW, w.before _ s = true := fun w h => hts w (List.mem_cons_of_mem _ h)
  have hl : lv_has ls 4 [(0, .ref (E.2.1 0)), (1, .int v1), (2, .ref bo)] := hl
  refine lv_aload_n hx hb dL_values_0 rfl (lv_at hl 2 rfl) ?_
  refine lv_iconst (v := 0) hx hb dL_values_1 (by decide) ?_
  refine lv_aload_n hx hb dL_values_2 rfl (lv_at hl 0 rfl) ?_
  refine lv_iload_n hx hb dL_values_3 rfl (lv_at hl 1 rfl) ?_
  refine xtciF (xRunTF (wr := oC E bo fo) (As := [.int v1]) (rest := [.int 0, .ref bo]) (C := RX11) (k := 1) hx hb hml hown hts hA hK hN hT hst hz (c_X11_values l hstk E g a v1 hf) bw603 bw1001 bw13 bw1002 bw1003 ⟨rfl, hd_X11_values⟩ ⟨Nat.le_of_ble_eq_true rfl, Nat.le_of_ble_eq_true rfl⟩ hP hD hS (va_recv hK (frP0 hP) (ci := 11) rfl (gx_0 E g a)) rfl hl.1 rfl (Nat.le_of_ble_eq_true rfl) dL_values_4 ⟨Nat.le_of_ble_eq_true rfl, Nat.le_of_ble_eq_true rfl⟩) hP hS (fun z1 hz1 ce q9 H locs hP hS hce hcv hcl => ?_) (fun z1 hz1 => by cases hz1)
  cases hz1
  rw [hz9] at hcl
  refine vx_catch (name := "java/lang/IllegalArgumentException") (E := exN 1) hown [] { startPc := 0, endPc := 9, handlerPc := 12, catchType := 13 } [] (by rw [htab]; rfl) (fun z hz => absurd hz List.not_mem_nil) (by decide) (by decide) (hw _ bw1000) (hT.cast 1 (by decide) (by decide)) hce hcv hcl ?_
  refine lv_astore_n (lv' := [(3, .ref q9), (0, .ref (E.2.1 0)), (1, .int v1), (2, .ref bo)]) hx hb dL_values_12 rfl hl (by decide) rfl (fun ls hl => ?_)
  refine lv_iconst (v := 1) hx hb dL_values_13 (by decide) ?_
  exact xw_ret hx hb hr hlocks hP hS (Nat.le_refl _) (Nat.le_refl _) dL_values_14
set_option maxRecDepth 100000 in
set_option maxHeartbeats 40000000 in
theorem c_L_relation_r (l : Launch) (hstk : l.stackTraces = false) (E : xE) (g : xG) (a : xA) (v1 : Int32) (bo : Nat) (fo : Nat → Int64) {z : Int32 × xG × xA} (hf : f_X11_relation g a v1 = some (.inr z)) : xW l E yL_relation cL_relation 4 [(0, 9, 12, 13), (0, 9, 15, 18)] 7 111 [.ref (E.2.1 0), .int v1, .ref bo] (wX E g a ++ oC E bo fo) 0 (wX E z.2.1 z.2.2 ++ oC E bo (vp_updL fo 0 ((z.1 : Int32).toInt64))) := by
  refine xW_of (by decide) (Nat.le_of_ble_eq_true rfl) ?_
  intro p e s m below meth c A hx hb hr hml hts hown hlocks htab hA hD hP hK hN hT hst hz hnc hS ls hl
  have hw : ∀ w ∈ BW, w.before _ s = true := fun w h => hts w (List.mem_cons_of_mem _ h)
  have hl : lv_has ls 4 [(0, .ref (E.2.1 0)), (1, .int v1), (2, .ref bo)] := hl
  refine lv_aload_n hx hb dL_relation_0 rfl (lv_at hl 2 rfl) ?_
  refine lv_iconst (v := 0) hx hb dL_relation_1 (by decide) ?_
  refine lv_aload_n hx hb dL_relation_2 rfl (lv_at hl 0 rfl) ?_
  refine lv_iload_n hx hb dL_relation_3 rfl (lv_at hl 1 rfl) ?_
  refine xtciF (xRunTF (wr := oC E bo fo) (As := [.int v1]) (rest := [.int 0, .ref bo]) (C := RX11) (k := 1) hx hb hml hown hts hA hK hN hT hst hz (c_X11_relation l hstk E g a v1 hf) bw604 bw1006 bw13 bw1007 bw1008 ⟨rfl, hd_X11_relation⟩ ⟨Nat.le_of_ble_eq_true rfl, Nat.le_of_ble_eq_true rfl⟩ hP hD hS (va_recv hK (frP0 hP) (ci := 11) rfl (gx_0 E g a)) rfl hl.1 rfl (Nat.le_of_ble_eq_true rfl) dL_relation_4 ⟨Nat.le_of_ble_eq_true rfl, Nat.le_of_ble_eq_true rfl⟩) hP hS (fun z1 hz1 => by cases hz1) (fun z1 hz1 H locs hP hS => ?_)
  cases hz1
  refine lv_i2l (v := ((z.1 : Int32).toInt64)) hx hb dL_relation_7 rfl ?_
  refine va_last hx hb hK hP (va_D.eqv hD rfl) hS 54 3 (go_out E z.2.1 z.2.2 bo fo) rfl (inB_in (by decide)) dL_relation_8 (fun H locs hP _ hS => ?_)
  have hP := xP_eq (so_out E z.2.1 z.2.2 bo fo (vp_updL fo 0 ((z.1 : Int32).toInt64))) hP
  refine lv_goto (tgt := 18) hx hb dL_relation_9 (by decide) ?_
  refine lv_iconst (v := 0) hx hb dL_relation_18 (by decide) ?_
  exact xw_ret hx hb hr hlocks hP hS (Nat.le_refl _) (Nat.le_refl _) dL_relation_19
set_option maxRecDepth 100000 in
set_option maxHeartbeats 40000000 in
theorem c_L_relation_t1 (l : Launch) (hstk : l.stackTraces = false) (E : xE) (g : xG) (a : xA) (v1 : Int32) (bo : Nat) (fo : Nat → Int64) {z : Nat × xG × xA} (hf : f_X11_relation g a v1 = some (.inl z)) (hz9 : z.1 = 1) : xW l E yL_relation cL_relation 4 [(0, 9, 12, 13), (0, 9, 15, 18)] 7 111 [.ref (E.2.1 0), .int v1, .ref bo] (wX E g a ++ oC E bo fo) 1 (wX E z.2.1 z.2.2 ++ oC E bo fo) := by
  refine xW_of (by decide) (Nat.le_of_ble_eq_true rfl) ?_
  intro p e s m below meth c A hx hb hr hml hts hown hlocks htab hA hD hP hK hN hT hst hz hnc hS ls hl
  have hw : ∀ w ∈ BW, w.before _ s = true := fun w h => hts w (List.mem_cons_of_mem _ h)
  have hl : lv_has ls 4 [(0, .ref (E.2.1 0)), (1, .int v1), (2, .ref bo)] := hl
  refine lv_aload_n hx hb dL_relation_0 rfl (lv_at hl 2 rfl) ?_
  refine lv_iconst (v := 0) hx hb dL_relation_1 (by decide) ?_
  refine lv_aload_n hx hb dL_relation_2 rfl (lv_at hl 0 rfl) ?_
  refine lv_iload_n hx hb dL_relation_3 rfl (lv_at hl 1 rfl) ?_
  refine xtciF (xRunTF (wr := oC E bo fo) (As := [.int v1]) (rest := [.int 0, .ref bo]) (C := RX11) (k := 1) hx hb hml hown hts hA hK hN hT hst hz (c_X11_relation l hstk E g a v1 hf) bw604 bw1006 bw13 bw1007 bw1008 ⟨rfl, hd_X11_relation⟩ ⟨Nat.le_of_ble_eq_true rfl, Nat.le_of_ble_eq_true rfl⟩ hP hD hS (va_recv hK (frP0 hP) (ci := 11) rfl (gx_0 E g a)) rfl hl.1 rfl (Nat.le_of_ble_eq_true rfl) dL_relation_4 ⟨Nat.le_of_ble_eq_true rfl, Nat.le_of_ble_eq_true rfl⟩) hP hS (fun z1 hz1 ce q9 H locs hP hS hce hcv hcl => ?_) (fun z1 hz1 => by cases hz1)
  cases hz1
  rw [hz9] at hcl
  refine vx_catch (name := "java/lang/IllegalArgumentException") (E := exN 1) hown [] { startPc := 0, endPc := 9, handlerPc := 12, catchType := 13 } [{ startPc := 0, endPc := 9, handlerPc := 15, catchType := 18 }] (by rw [htab]; rfl) (fun z hz => absurd hz List.not_mem_nil) (by decide) (by decide) (hw _ bw1000) (hT.cast 1 (by decide) (by decide)) hce hcv hcl ?_
  refine lv_astore_n (lv' := [(3, .ref q9), (0, .ref (E.2.1 0)), (1, .int v1), (2, .ref bo)]) hx hb dL_relation_12 rfl hl (by decide) rfl (fun ls hl => ?_)
  refine lv_iconst (v := 1) hx hb dL_relation_13 (by decide) ?_
  exact xw_ret hx hb hr hlocks hP hS (Nat.le_refl _) (Nat.le_refl _) dL_relation_14
set_option maxRecDepth 100000 in
set_option maxHeartbeats 40000000 in
theorem c_L_relation_t2 (l : Launch) (hstk : l.stackTraces = false) (E : xE) (g : xG) (a : xA) (v1 : Int32) (bo : Nat) (fo : Nat → Int64) {z : Nat × xG × xA} (hf : f_X11_relation g a v1 = some (.inl z)) (hz9 : z.1 = 2) : xW l E yL_relation cL_relation 4 [(0, 9, 12, 13), (0, 9, 15, 18)] 7 111 [.ref (E.2.1 0), .int v1, .ref bo] (wX E g a ++ oC E bo fo) 2 (wX E z.2.1 z.2.2 ++ oC E bo fo) := by
  refine xW_of (by decide) (Nat.le_of_ble_eq_true rfl) ?_
  intro p e s m below meth c A hx hb hr hml hts hown hlocks htab hA hD hP hK hN hT hst hz hnc hS ls hl
  have hw : ∀ w ∈ BW, w.before _ s = true := fun w h => hts w (List.mem_cons_of_mem _ h)
  have hl : lv_has ls 4 [(0, .ref (E.2.1 0)), (1, .int v1), (2, .ref bo)] := hl
  refine lv_aload_n hx hb dL_relation_0 rfl (lv_at hl 2 rfl) ?_
  refine lv_iconst (v := 0) hx hb dL_relation_1 (by decide) ?_
  refine lv_aload_n hx hb dL_relation_2 rfl (lv_at hl 0 rfl) ?_
  refine lv_iload_n hx hb dL_relation_3 rfl (lv_at hl 1 rfl) ?_
  refine xtciF (xRunTF (wr := oC E bo fo) (As := [.int v1]) (rest := [.int 0, .ref bo]) (C := RX11) (k := 1) hx hb hml hown hts hA hK hN hT hst hz (c_X11_relation l hstk E g a v1 hf) bw604 bw1006 bw13 bw1007 bw1008 ⟨rfl, hd_X11_relation⟩ ⟨Nat.le_of_ble_eq_true rfl, Nat.le_of_ble_eq_true rfl⟩ hP hD hS (va_recv hK (frP0 hP) (ci := 11) rfl (gx_0 E g a)) rfl hl.1 rfl (Nat.le_of_ble_eq_true rfl) dL_relation_4 ⟨Nat.le_of_ble_eq_true rfl, Nat.le_of_ble_eq_true rfl⟩) hP hS (fun z1 hz1 ce q9 H locs hP hS hce hcv hcl => ?_) (fun z1 hz1 => by cases hz1)
  cases hz1
  rw [hz9] at hcl
  refine vx_catch (name := "java/lang/IllegalStateException") (E := exN 2) hown [{ startPc := 0, endPc := 9, handlerPc := 12, catchType := 13 }] { startPc := 0, endPc := 9, handlerPc := 15, catchType := 18 } [] (by rw [htab]; rfl) (fun z hz => by
      simp only [List.mem_cons, List.not_mem_nil, or_false] at hz
      rcases hz with rfl
      · exact Or.inr ⟨by decide, _, hw _ bw1000, hnc 2 1 (by decide) (by decide) (by decide) (by decide) (by decide)⟩) (by decide) (by decide) (hw _ bw1005) (hT.cast 2 (by decide) (by decide)) hce hcv hcl ?_
  refine lv_astore_n (lv' := [(3, .ref q9), (0, .ref (E.2.1 0)), (1, .int v1), (2, .ref bo)]) hx hb dL_relation_15 rfl hl (by decide) rfl (fun ls hl => ?_)
  refine lv_iconst (v := 2) hx hb dL_relation_16 (by decide) ?_
  exact xw_ret hx hb hr hlocks hP hS (Nat.le_refl _) (Nat.le_refl _) dL_relation_17
set_option maxRecDepth 100000 in
set_option maxHeartbeats 40000000 in
theorem c_L_tuple_r (l : Launch) (hstk : l.stackTraces = false) (E : xE) (g : xG) (a : xA) (v1 : Int32) (v2 : Int32) (v3 : Int32) (bo : Nat) (fo : Nat → Int64) {z : Int32 × xA} (hf : f_X11_tuple g a v1 v2 v3 = some (.inr z)) : xW l E yL_tuple cL_tuple 6 [(0, 19, 22, 24)] 7 114 [.ref (E.2.1 0), .int v1, .int v2, .int v3, .ref bo] (wX E g a ++ oC E bo fo) 0 (wX E g z.2 ++ oC E bo (vp_updL fo 0 (if z.1 = 0 then 0 else 1))) := by
  refine xW_of (by decide) (Nat.le_of_ble_eq_true rfl) ?_
  intro p e s m below meth c A hx hb hr hml hts hown hlocks htab hA hD hP hK hN hT hst hz hnc hS ls hl
  have hw : ∀ w ∈ BW, w.before _ s = true := fun w h => hts w (List.mem_cons_of_mem _ h)
  have hl : lv_has ls 6 [(0, .ref (E.2.1 0)), (1, .int v1), (2, .int v2), (3, .int v3), (4, .ref bo)] := hl
  refine lv_aload hx hb dL_tuple_0 (lv_at hl 4 rfl) ?_
  refine lv_iconst (v := 0) hx hb dL_tuple_2 (by decide) ?_
  refine lv_aload_n hx hb dL_tuple_3 rfl (lv_at hl 0 rfl) ?_
  refine lv_iload_n hx hb dL_tuple_4 rfl (lv_at hl 1 rfl) ?_
  refine lv_iload_n hx hb dL_tuple_5 rfl (lv_at hl 2 rfl) ?_
  refine lv_iload_n hx hb dL_tuple_6 rfl (lv_at hl 3 rfl) ?_
  refine xtciF (xRunTF (wr := oC E bo fo) (As := [.int v1, .int v2, .int v3]) (rest := [.int 0, .ref bo]) (C := RX11) (k := 3) hx hb hml hown hts hA hK hN hT hst hz (c_X11_tuple l hstk E g a v1 v2 v3 hf) bw622 bw1011 bw13 bw1012 bw1013 ⟨rfl, hd_X11_tuple⟩ ⟨Nat.le_of_ble_eq_true rfl, Nat.le_of_ble_eq_true rfl⟩ hP hD hS (va_recv hK (frP0 hP) (ci := 11) rfl (gx_0 E g a)) rfl hl.1 rfl (Nat.le_of_ble_eq_true rfl) dL_tuple_7 ⟨Nat.le_of_ble_eq_true rfl, Nat.le_of_ble_eq_true rfl⟩) hP hS (fun z1 hz1 => by cases hz1) (fun z1 hz1 H locs hP hS => ?_)
  cases hz1
  refine lv_if_eq (tgt := 17) hx hb dL_tuple_10 (by decide) (fun c1 => ?_) (fun c1 => ?_)
  · refine lv_lconst (v := 0) hx hb dL_tuple_17 (by decide) ?_
    refine va_last hx hb hK hP (va_D.eqv hD rfl) hS 54 3 (go_out E g z.2 bo fo) rfl (inB_in (by decide)) dL_tuple_18 (fun H locs hP _ hS => ?_)
    have hP := xP_eq (so_out E g z.2 bo fo (vp_updL fo 0 0)) hP
    have hP : va_P E.1 vwCl (wX E g z.2 ++ oC E bo (vp_updL fo 0 (if z.1 = 0 then 0 else 1))) H := by rw [if_pos c1]; exact hP
    refine lv_goto (tgt := 26) hx hb dL_tuple_19 (by decide) ?_
    refine lv_iconst (v := 0) hx hb dL_tuple_26 (by decide) ?_
    exact xw_ret hx hb hr hlocks hP hS (Nat.le_refl _) (Nat.le_refl _) dL_tuple_27
  · refine lv_lconst (v := 1) hx hb dL_tuple_13 (by decide) ?_
    refine lv_goto (tgt := 18) hx hb dL_tuple_14 (by decide) ?_
    refine va_last hx hb hK hP (va_D.eqv hD rfl) hS 54 3 (go_out E g z.2 bo fo) rfl (inB_in (by decide)) dL_tuple_18 (fun H locs hP _ hS => ?_)
    have hP := xP_eq (so_out E g z.2 bo fo (vp_updL fo 0 1)) hP
    have hP : va_P E.1 vwCl (wX E g z.2 ++ oC E bo (vp_updL fo 0 (if z.1 = 0 then 0 else 1))) H := by rw [if_neg c1]; exact hP
    refine lv_goto (tgt := 26) hx hb dL_tuple_19 (by decide) ?_
    refine lv_iconst (v := 0) hx hb dL_tuple_26 (by decide) ?_
    exact xw_ret hx hb hr hlocks hP hS (Nat.le_refl _) (Nat.le_refl _) dL_tuple_27
set_option maxRecDepth 100000 in
set_option maxHeartbeats 40000000 in
theorem c_L_tuple_t3 (l : Launch) (hstk : l.stackTraces = false) (E : xE) (g : xG) (a : xA) (v1 : Int32) (v2 : Int32) (v3 : Int32) (bo : Nat) (fo : Nat → Int64) {z : Nat × xA} (hf : f_X11_tuple g a v1 v2 v3 = some (.inl z)) (hz9 : z.1 = 3) : xW l E yL_tuple cL_tuple 6 [(0, 19, 22, 24)] 7 114 [.ref (E.2.1 0), .int v1, .int v2, .int v3, .ref bo] (wX E g a ++ oC E bo fo) 1 (wX E g z.2 ++ oC E bo fo) := by
  refine xW_of (by decide) (Nat.le_of_ble_eq_true rfl) ?_
  intro p e s m below meth c A hx hb hr hml hts hown hlocks htab hA hD hP hK hN hT hst hz hnc hS ls hl
  have hw : ∀ w ∈ BW, w.before _ s = true := fun w h => hts w (List.mem_cons_of_mem _ h)
  have hl : lv_has ls 6 [(0, .ref (E.2.1 0)), (1, .int v1), (2, .int v2), (3, .int v3), (4, .ref bo)] := hl
  refine lv_aload hx hb dL_tuple_0 (lv_at hl 4 rfl) ?_
  refine lv_iconst (v := 0) hx hb dL_tuple_2 (by decide) ?_
  refine lv_aload_n hx hb dL_tuple_3 rfl (lv_at hl 0 rfl) ?_
  refine lv_iload_n hx hb dL_tuple_4 rfl (lv_at hl 1 rfl) ?_
  refine lv_iload_n hx hb dL_tuple_5 rfl (lv_at hl 2 rfl) ?_
  refine lv_iload_n hx hb dL_tuple_6 rfl (lv_at hl 3 rfl) ?_
  refine xtciF (xRunTF (wr := oC E bo fo) (As := [.int v1, .int v2, .int v3]) (rest := [.int 0, .ref bo]) (C := RX11) (k := 3) hx hb hml hown hts hA hK hN hT hst hz (c_X11_tuple l hstk E g a v1 v2 v3 hf) bw622 bw1011 bw13 bw1012 bw1013 ⟨rfl, hd_X11_tuple⟩ ⟨Nat.le_of_ble_eq_true rfl, Nat.le_of_ble_eq_true rfl⟩ hP hD hS (va_recv hK (frP0 hP) (ci := 11) rfl (gx_0 E g a)) rfl hl.1 rfl (Nat.le_of_ble_eq_true rfl) dL_tuple_7 ⟨Nat.le_of_ble_eq_true rfl, Nat.le_of_ble_eq_true rfl⟩) hP hS (fun z1 hz1 ce q9 H locs hP hS hce hcv hcl => ?_) (fun z1 hz1 => by cases hz1)
  cases hz1
  rw [hz9] at hcl
  refine vx_catch (name := "java/lang/IndexOutOfBoundsException") (E := exN 3) hown [] { startPc := 0, endPc := 19, handlerPc := 22, catchType := 24 } [] (by rw [htab]; rfl) (fun z hz => absurd hz List.not_mem_nil) (by decide) (by decide) (hw _ bw1010) (hT.cast 3 (by decide) (by decide)) hce hcv hcl ?_
  refine lv_astore (lv' := [(5, .ref q9), (0, .ref (E.2.1 0)), (1, .int v1), (2, .int v2), (3, .int v3), (4, .ref bo)]) hx hb dL_tuple_22 hl (by decide) rfl (fun ls hl => ?_)
  refine lv_iconst (v := 1) hx hb dL_tuple_24 (by decide) ?_
  exact xw_ret hx hb hr hlocks hP hS (Nat.le_refl _) (Nat.le_refl _) dL_tuple_25
set_option maxRecDepth 100000 in
set_option maxHeartbeats 40000000 in
theorem c_L_ofRelation_r (l : Launch) (hstk : l.stackTraces = false) (E : xE) (g : xG) (a : xA) (v1 : Int32) (v2 : Int32) (bo : Nat) (fo : Nat → Int64) {z : Int32} (hf : f_X11_ofRelation g a v1 v2 = some (.inr z)) : xW l E yL_ofRelation cL_ofRelation 5 [(0, 10, 13, 24), (0, 10, 17, 13)] 7 112 [.ref (E.2.1 0), .int v1, .int v2, .ref bo] (wX E g a ++ oC E bo fo) 0 (wX E g a ++ oC E bo (vp_updL fo 0 ((z : Int32).toInt64))) := by
  refine xW_of (by decide) (Nat.le_of_ble_eq_true rfl) ?_
  intro p e s m below meth c A hx hb hr hml hts hown hlocks htab hA hD hP hK hN hT hst hz hnc hS ls hl
  have hw : ∀ w ∈ BW, w.before _ s = true := fun w h => hts w (List.mem_cons_of_mem _ h)
  have hl : lv_has ls 5 [(0, .ref (E.2.1 0)), (1, .int v1), (2, .int v2), (3, .ref bo)] := hl
  refine lv_aload_n hx hb dL_ofRelation_0 rfl (lv_at hl 3 rfl) ?_
  refine lv_iconst (v := 0) hx hb dL_ofRelation_1 (by decide) ?_
  refine lv_aload_n hx hb dL_ofRelation_2 rfl (lv_at hl 0 rfl) ?_
  refine lv_iload_n hx hb dL_ofRelation_3 rfl (lv_at hl 1 rfl) ?_
  refine lv_iload_n hx hb dL_ofRelation_4 rfl (lv_at hl 2 rfl) ?_
  refine xtciF (xRunTF (wr := oC E bo fo) (As := [.int v1, .int v2]) (rest := [.int 0, .ref bo]) (C := RX11) (k := 2) hx hb hml hown hts hA hK hN hT hst hz (c_X11_ofRelation l hstk E g a v1 v2 hf) bw624 bw1015 bw13 bw1016 bw1017 ⟨rfl, hd_X11_ofRelation⟩ ⟨Nat.le_of_ble_eq_true rfl, Nat.le_of_ble_eq_true rfl⟩ hP hD hS (va_recv hK (frP0 hP) (ci := 11) rfl (gx_0 E g a)) rfl hl.1 rfl (Nat.le_of_ble_eq_true rfl) dL_ofRelation_5 ⟨Nat.le_of_ble_eq_true rfl, Nat.le_of_ble_eq_true rfl⟩) hP hS (fun z1 hz1 => by cases hz1) (fun z1 hz1 H locs hP hS => ?_)
  cases hz1
  refine lv_i2l (v := ((z : Int32).toInt64)) hx hb dL_ofRelation_8 rfl ?_
  refine va_last hx hb hK hP (va_D.eqv hD rfl) hS 54 3 (go_out E g a bo fo) rfl (inB_in (by decide)) dL_ofRelation_9 (fun H locs hP _ hS => ?_)
  have hP := xP_eq (so_out E g a bo fo (vp_updL fo 0 ((z : Int32).toInt64))) hP
  refine lv_goto (tgt := 21) hx hb dL_ofRelation_10 (by decide) ?_
  refine lv_iconst (v := 0) hx hb dL_ofRelation_21 (by decide) ?_
  exact xw_ret hx hb hr hlocks hP hS (Nat.le_refl _) (Nat.le_refl _) dL_ofRelation_22
set_option maxRecDepth 100000 in
set_option maxHeartbeats 40000000 in
theorem c_L_ofRelation_t3 (l : Launch) (hstk : l.stackTraces = false) (E : xE) (g : xG) (a : xA) (v1 : Int32) (v2 : Int32) (bo : Nat) (fo : Nat → Int64) {z : Nat} (hf : f_X11_ofRelation g a v1 v2 = some (.inl z)) (hz9 : z = 3) : xW l E yL_ofRelation cL_ofRelation 5 [(0, 10, 13, 24), (0, 10, 17, 13)] 7 112 [.ref (E.2.1 0), .int v1, .int v2, .ref bo] (wX E g a ++ oC E bo fo) 1 (wX E g a ++ oC E bo fo) := by
  refine xW_of (by decide) (Nat.le_of_ble_eq_true rfl) ?_
  intro p e s m below meth c A hx hb hr hml hts hown hlocks htab hA hD hP hK hN hT hst hz hnc hS ls hl
  have hw : ∀ w ∈ BW, w.before _ s = true := fun w h => hts w (List.mem_cons_of_mem _ h)
  have hl : lv_has ls 5 [(0, .ref (E.2.1 0)), (1, .int v1), (2, .int v2), (3, .ref bo)] := hl
  refine lv_aload_n hx hb dL_ofRelation_0 rfl (lv_at hl 3 rfl) ?_
  refine lv_iconst (v := 0) hx hb dL_ofRelation_1 (by decide) ?_
  refine lv_aload_n hx hb dL_ofRelation_2 rfl (lv_at hl 0 rfl) ?_
  refine lv_iload_n hx hb dL_ofRelation_3 rfl (lv_at hl 1 rfl) ?_
  refine lv_iload_n hx hb dL_ofRelation_4 rfl (lv_at hl 2 rfl) ?_
  refine xtciF (xRunTF (wr := oC E bo fo) (As := [.int v1, .int v2]) (rest := [.int 0, .ref bo]) (C := RX11) (k := 2) hx hb hml hown hts hA hK hN hT hst hz (c_X11_ofRelation l hstk E g a v1 v2 hf) bw624 bw1015 bw13 bw1016 bw1017 ⟨rfl, hd_X11_ofRelation⟩ ⟨Nat.le_of_ble_eq_true rfl, Nat.le_of_ble_eq_true rfl⟩ hP hD hS (va_recv hK (frP0 hP) (ci := 11) rfl (gx_0 E g a)) rfl hl.1 rfl (Nat.le_of_ble_eq_true rfl) dL_ofRelation_5 ⟨Nat.le_of_ble_eq_true rfl, Nat.le_of_ble_eq_true rfl⟩) hP hS (fun z1 hz1 ce q9 H locs hP hS hce hcv hcl => ?_) (fun z1 hz1 => by cases hz1)
  cases hz1
  rw [hz9] at hcl
  refine vx_catch (name := "java/lang/IndexOutOfBoundsException") (E := exN 3) hown [] { startPc := 0, endPc := 10, handlerPc := 13, catchType := 24 } [{ startPc := 0, endPc := 10, handlerPc := 17, catchType := 13 }] (by rw [htab]; rfl) (fun z hz => absurd hz List.not_mem_nil) (by decide) (by decide) (hw _ bw1010) (hT.cast 3 (by decide) (by decide)) hce hcv hcl ?_
  refine lv_astore (lv' := [(4, .ref q9), (0, .ref (E.2.1 0)), (1, .int v1), (2, .int v2), (3, .ref bo)]) hx hb dL_ofRelation_13 hl (by decide) rfl (fun ls hl => ?_)
  refine lv_iconst (v := 1) hx hb dL_ofRelation_15 (by decide) ?_
  exact xw_ret hx hb hr hlocks hP hS (Nat.le_refl _) (Nat.le_refl _) dL_ofRelation_16
set_option maxRecDepth 100000 in
set_option maxHeartbeats 40000000 in
theorem c_L_ofRelation_t1 (l : Launch) (hstk : l.stackTraces = false) (E : xE) (g : xG) (a : xA) (v1 : Int32) (v2 : Int32) (bo : Nat) (fo : Nat → Int64) {z : Nat} (hf : f_X11_ofRelation g a v1 v2 = some (.inl z)) (hz9 : z = 1) : xW l E yL_ofRelation cL_ofRelation 5 [(0, 10, 13, 24), (0, 10, 17, 13)] 7 112 [.ref (E.2.1 0), .int v1, .int v2, .ref bo] (wX E g a ++ oC E bo fo) 2 (wX E g a ++ oC E bo fo) := by
  refine xW_of (by decide) (Nat.le_of_ble_eq_true rfl) ?_
  intro p e s m below meth c A hx hb hr hml hts hown hlocks htab hA hD hP hK hN hT hst hz hnc hS ls hl
  have hw : ∀ w ∈ BW, w.before _ s = true := fun w h => hts w (List.mem_cons_of_mem _ h)
  have hl : lv_has ls 5 [(0, .ref (E.2.1 0)), (1, .int v1), (2, .int v2), (3, .ref bo)] := hl
  refine lv_aload_n hx hb dL_ofRelation_0 rfl (lv_at hl 3 rfl) ?_
  refine lv_iconst (v := 0) hx hb dL_ofRelation_1 (by decide) ?_
  refine lv_aload_n hx hb dL_ofRelation_2 rfl (lv_at hl 0 rfl) ?_
  refine lv_iload_n hx hb dL_ofRelation_3 rfl (lv_at hl 1 rfl) ?_
  refine lv_iload_n hx hb dL_ofRelation_4 rfl (lv_at hl 2 rfl) ?_
  refine xtciF (xRunTF (wr := oC E bo fo) (As := [.int v1, .int v2]) (rest := [.int 0, .ref bo]) (C := RX11) (k := 2) hx hb hml hown hts hA hK hN hT hst hz (c_X11_ofRelation l hstk E g a v1 v2 hf) bw624 bw1015 bw13 bw1016 bw1017 ⟨rfl, hd_X11_ofRelation⟩ ⟨Nat.le_of_ble_eq_true rfl, Nat.le_of_ble_eq_true rfl⟩ hP hD hS (va_recv hK (frP0 hP) (ci := 11) rfl (gx_0 E g a)) rfl hl.1 rfl (Nat.le_of_ble_eq_true rfl) dL_ofRelation_5 ⟨Nat.le_of_ble_eq_true rfl, Nat.le_of_ble_eq_true rfl⟩) hP hS (fun z1 hz1 ce q9 H locs hP hS hce hcv hcl => ?_) (fun z1 hz1 => by cases hz1)
  cases hz1
  rw [hz9] at hcl
  refine vx_catch (name := "java/lang/IllegalArgumentException") (E := exN 1) hown [{ startPc := 0, endPc := 10, handlerPc := 13, catchType := 24 }] { startPc := 0, endPc := 10, handlerPc := 17, catchType := 13 } [] (by rw [htab]; rfl) (fun z hz => by
      simp only [List.mem_cons, List.not_mem_nil, or_false] at hz
      rcases hz with rfl
      · exact Or.inr ⟨by decide, _, hw _ bw1010, hnc 1 3 (by decide) (by decide) (by decide) (by decide) (by decide)⟩) (by decide) (by decide) (hw _ bw1000) (hT.cast 1 (by decide) (by decide)) hce hcv hcl ?_
  refine lv_astore (lv' := [(4, .ref q9), (0, .ref (E.2.1 0)), (1, .int v1), (2, .int v2), (3, .ref bo)]) hx hb dL_ofRelation_17 hl (by decide) rfl (fun ls hl => ?_)
  refine lv_iconst (v := 2) hx hb dL_ofRelation_19 (by decide) ?_
  exact xw_ret hx hb hr hlocks hP hS (Nat.le_refl _) (Nat.le_refl _) dL_ofRelation_20
set_option maxRecDepth 100000 in
set_option maxHeartbeats 40000000 in
theorem c_L_operation_r (l : Launch) (hstk : l.stackTraces = false) (E : xE) (g : xG) (a : xA) (v1 : Int32) (bo : Nat) (fo : Nat → Int64) {z : Int32 × xG × xA} (hf : f_X11_operation g a v1 = some (.inr z)) : xW l E yL_operation cL_operation 4 [(0, 9, 12, 13), (0, 9, 15, 18)] 7 128 [.ref (E.2.1 0), .int v1, .ref bo] (wX E g a ++ oC E bo fo) 0 (wX E z.2.1 z.2.2 ++ oC E bo (vp_updL fo 0 ((z.1 : Int32).toInt64))) := by
  refine xW_of (by decide) (Nat.le_of_ble_eq_true rfl) ?_
  intro p e s m below meth c A hx hb hr hml hts hown hlocks htab hA hD hP hK hN hT hst hz hnc hS ls hl
  have hw : ∀ w ∈ BW, w.before _ s = true := fun w h => hts w (List.mem_cons_of_mem _ h)
  have hl : lv_has ls 4 [(0, .ref (E.2.1 0)), (1, .int v1), (2, .ref bo)] := hl
  refine lv_aload_n hx hb dL_operation_0 rfl (lv_at hl 2 rfl) ?_
  refine lv_iconst (v := 0) hx hb dL_operation_1 (by decide) ?_
  refine lv_aload_n hx hb dL_operation_2 rfl (lv_at hl 0 rfl) ?_
  refine lv_iload_n hx hb dL_operation_3 rfl (lv_at hl 1 rfl) ?_
  refine xtciF (xRunTF (wr := oC E bo fo) (As := [.int v1]) (rest := [.int 0, .ref bo]) (C := RX11) (k := 1) hx hb hml hown hts hA hK hN hT hst hz (c_X11_operation l hstk E g a v1 hf) bw628 bw1019 bw13 bw1020 bw1021 ⟨rfl, hd_X11_operation⟩ ⟨Nat.le_of_ble_eq_true rfl, Nat.le_of_ble_eq_true rfl⟩ hP hD hS (va_recv hK (frP0 hP) (ci := 11) rfl (gx_0 E g a)) rfl hl.1 rfl (Nat.le_of_ble_eq_true rfl) dL_operation_4 ⟨Nat.le_of_ble_eq_true rfl, Nat.le_of_ble_eq_true rfl⟩) hP hS (fun z1 hz1 => by cases hz1) (fun z1 hz1 H locs hP hS => ?_)
  cases hz1
  refine lv_i2l (v := ((z.1 : Int32).toInt64)) hx hb dL_operation_7 rfl ?_
  refine va_last hx hb hK hP (va_D.eqv hD rfl) hS 54 3 (go_out E z.2.1 z.2.2 bo fo) rfl (inB_in (by decide)) dL_operation_8 (fun H locs hP _ hS => ?_)
  have hP := xP_eq (so_out E z.2.1 z.2.2 bo fo (vp_updL fo 0 ((z.1 : Int32).toInt64))) hP
  refine lv_goto (tgt := 18) hx hb dL_operation_9 (by decide) ?_
  refine lv_iconst (v := 0) hx hb dL_operation_18 (by decide) ?_
  exact xw_ret hx hb hr hlocks hP hS (Nat.le_refl _) (Nat.le_refl _) dL_operation_19
set_option maxRecDepth 100000 in
set_option maxHeartbeats 40000000 in
theorem c_L_operation_t1 (l : Launch) (hstk : l.stackTraces = false) (E : xE) (g : xG) (a : xA) (v1 : Int32) (bo : Nat) (fo : Nat → Int64) {z : Nat × xG × xA} (hf : f_X11_operation g a v1 = some (.inl z)) (hz9 : z.1 = 1) : xW l E yL_operation cL_operation 4 [(0, 9, 12, 13), (0, 9, 15, 18)] 7 128 [.ref (E.2.1 0), .int v1, .ref bo] (wX E g a ++ oC E bo fo) 1 (wX E z.2.1 z.2.2 ++ oC E bo fo) := by
  refine xW_of (by decide) (Nat.le_of_ble_eq_true rfl) ?_
  intro p e s m below meth c A hx hb hr hml hts hown hlocks htab hA hD hP hK hN hT hst hz hnc hS ls hl
  have hw : ∀ w ∈ BW, w.before _ s = true := fun w h => hts w (List.mem_cons_of_mem _ h)
  have hl : lv_has ls 4 [(0, .ref (E.2.1 0)), (1, .int v1), (2, .ref bo)] := hl
  refine lv_aload_n hx hb dL_operation_0 rfl (lv_at hl 2 rfl) ?_
  refine lv_iconst (v := 0) hx hb dL_operation_1 (by decide) ?_
  refine lv_aload_n hx hb dL_operation_2 rfl (lv_at hl 0 rfl) ?_
  refine lv_iload_n hx hb dL_operation_3 rfl (lv_at hl 1 rfl) ?_
  refine xtciF (xRunTF (wr := oC E bo fo) (As := [.int v1]) (rest := [.int 0, .ref bo]) (C := RX11) (k := 1) hx hb hml hown hts hA hK hN hT hst hz (c_X11_operation l hstk E g a v1 hf) bw628 bw1019 bw13 bw1020 bw1021 ⟨rfl, hd_X11_operation⟩ ⟨Nat.le_of_ble_eq_true rfl, Nat.le_of_ble_eq_true rfl⟩ hP hD hS (va_recv hK (frP0 hP) (ci := 11) rfl (gx_0 E g a)) rfl hl.1 rfl (Nat.le_of_ble_eq_true rfl) dL_operation_4 ⟨Nat.le_of_ble_eq_true rfl, Nat.le_of_ble_eq_true rfl⟩) hP hS (fun z1 hz1 ce q9 H locs hP hS hce hcv hcl => ?_) (fun z1 hz1 => by cases hz1)
  cases hz1
  rw [hz9] at hcl
  refine vx_catch (name := "java/lang/IllegalArgumentException") (E := exN 1) hown [] { startPc := 0, endPc := 9, handlerPc := 12, catchType := 13 } [{ startPc := 0, endPc := 9, handlerPc := 15, catchType := 18 }] (by rw [htab]; rfl) (fun z hz => absurd hz List.not_mem_nil) (by decide) (by decide) (hw _ bw1000) (hT.cast 1 (by decide) (by decide)) hce hcv hcl ?_
  refine lv_astore_n (lv' := [(3, .ref q9), (0, .ref (E.2.1 0)), (1, .int v1), (2, .ref bo)]) hx hb dL_operation_12 rfl hl (by decide) rfl (fun ls hl => ?_)
  refine lv_iconst (v := 1) hx hb dL_operation_13 (by decide) ?_
  exact xw_ret hx hb hr hlocks hP hS (Nat.le_refl _) (Nat.le_refl _) dL_operation_14
set_option maxRecDepth 100000 in
set_option maxHeartbeats 40000000 in
theorem c_L_operation_t2 (l : Launch) (hstk : l.stackTraces = false) (E : xE) (g : xG) (a : xA) (v1 : Int32) (bo : Nat) (fo : Nat → Int64) {z : Nat × xG × xA} (hf : f_X11_operation g a v1 = some (.inl z)) (hz9 : z.1 = 2) : xW l E yL_operation cL_operation 4 [(0, 9, 12, 13), (0, 9, 15, 18)] 7 128 [.ref (E.2.1 0), .int v1, .ref bo] (wX E g a ++ oC E bo fo) 2 (wX E z.2.1 z.2.2 ++ oC E bo fo) := by
  refine xW_of (by decide) (Nat.le_of_ble_eq_true rfl) ?_
  intro p e s m below meth c A hx hb hr hml hts hown hlocks htab hA hD hP hK hN hT hst hz hnc hS ls hl
  have hw : ∀ w ∈ BW, w.before _ s = true := fun w h => hts w (List.mem_cons_of_mem _ h)
  have hl : lv_has ls 4 [(0, .ref (E.2.1 0)), (1, .int v1), (2, .ref bo)] := hl
  refine lv_aload_n hx hb dL_operation_0 rfl (lv_at hl 2 rfl) ?_
  refine lv_iconst (v := 0) hx hb dL_operation_1 (by decide) ?_
  refine lv_aload_n hx hb dL_operation_2 rfl (lv_at hl 0 rfl) ?_
  refine lv_iload_n hx hb dL_operation_3 rfl (lv_at hl 1 rfl) ?_
  refine xtciF (xRunTF (wr := oC E bo fo) (As := [.int v1]) (rest := [.int 0, .ref bo]) (C := RX11) (k := 1) hx hb hml hown hts hA hK hN hT hst hz (c_X11_operation l hstk E g a v1 hf) bw628 bw1019 bw13 bw1020 bw1021 ⟨rfl, hd_X11_operation⟩ ⟨Nat.le_of_ble_eq_true rfl, Nat.le_of_ble_eq_true rfl⟩ hP hD hS (va_recv hK (frP0 hP) (ci := 11) rfl (gx_0 E g a)) rfl hl.1 rfl (Nat.le_of_ble_eq_true rfl) dL_operation_4 ⟨Nat.le_of_ble_eq_true rfl, Nat.le_of_ble_eq_true rfl⟩) hP hS (fun z1 hz1 ce q9 H locs hP hS hce hcv hcl => ?_) (fun z1 hz1 => by cases hz1)
  cases hz1
  rw [hz9] at hcl
  refine vx_catch (name := "java/lang/IllegalStateException") (E := exN 2) hown [{ startPc := 0, endPc := 9, handlerPc := 12, catchType := 13 }] { startPc := 0, endPc := 9, handlerPc := 15, catchType := 18 } [] (by rw [htab]; rfl) (fun z hz => by
      simp only [List.mem_cons, List.not_mem_nil, or_false] at hz
      rcases hz with rfl
      · exact Or.inr ⟨by decide, _, hw _ bw1000, hnc 2 1 (by decide) (by decide) (by decide) (by decide) (by decide)⟩) (by decide) (by decide) (hw _ bw1005) (hT.cast 2 (by decide) (by decide)) hce hcv hcl ?_
  refine lv_astore_n (lv' := [(3, .ref q9), (0, .ref (E.2.1 0)), (1, .int v1), (2, .ref bo)]) hx hb dL_operation_15 rfl hl (by decide) rfl (fun ls hl => ?_)
  refine lv_iconst (v := 2) hx hb dL_operation_16 (by decide) ?_
  exact xw_ret hx hb hr hlocks hP hS (Nat.le_refl _) (Nat.le_refl _) dL_operation_17
set_option maxRecDepth 100000 in
set_option maxHeartbeats 40000000 in
theorem c_L_make_r (l : Launch) (hstk : l.stackTraces = false) (E : xE) (g : xG) (a : xA) (v1 : Int32) (bo : Nat) (fo : Nat → Int64) {z : Int32 × xG × xA} (hf : f_X11_make g a v1 = some (.inr z)) : xW l E yL_make cL_make 4 [(0, 9, 12, 13), (0, 9, 15, 18)] 7 153 [.ref (E.2.1 0), .int v1, .ref bo] (wX E g a ++ oC E bo fo) 0 (wX E z.2.1 z.2.2 ++ oC E bo (vp_updL fo 0 ((z.1 : Int32).toInt64))) := by
  refine xW_of (by decide) (Nat.le_of_ble_eq_true rfl) ?_
  intro p e s m below meth c A hx hb hr hml hts hown hlocks htab hA hD hP hK hN hT hst hz hnc hS ls hl
  have hw : ∀ w ∈ BW, w.before _ s = true := fun w h => hts w (List.mem_cons_of_mem _ h)
  have hl : lv_has ls 4 [(0, .ref (E.2.1 0)), (1, .int v1), (2, .ref bo)] := hl
  refine lv_aload_n hx hb dL_make_0 rfl (lv_at hl 2 rfl) ?_
  refine lv_iconst (v := 0) hx hb dL_make_1 (by decide) ?_
  refine lv_aload_n hx hb dL_make_2 rfl (lv_at hl 0 rfl) ?_
  refine lv_iload_n hx hb dL_make_3 rfl (lv_at hl 1 rfl) ?_
  refine xtciF (xRunTF (wr := oC E bo fo) (As := [.int v1]) (rest := [.int 0, .ref bo]) (C := RX11) (k := 1) hx hb hml hown hts hA hK hN hT hst hz (c_X11_make l hstk E g a v1 hf) bw632 bw1023 bw13 bw1024 bw1025 ⟨rfl, hd_X11_make⟩ ⟨Nat.le_of_ble_eq_true rfl, Nat.le_of_ble_eq_true rfl⟩ hP hD hS (va_recv hK (frP0 hP) (ci := 11) rfl (gx_0 E g a)) rfl hl.1 rfl (Nat.le_of_ble_eq_true rfl) dL_make_4 ⟨Nat.le_of_ble_eq_true rfl, Nat.le_of_ble_eq_true rfl⟩) hP hS (fun z1 hz1 => by cases hz1) (fun z1 hz1 H locs hP hS => ?_)
  cases hz1
  refine lv_i2l (v := ((z.1 : Int32).toInt64)) hx hb dL_make_7 rfl ?_
  refine va_last hx hb hK hP (va_D.eqv hD rfl) hS 54 3 (go_out E z.2.1 z.2.2 bo fo) rfl (inB_in (by decide)) dL_make_8 (fun H locs hP _ hS => ?_)
  have hP := xP_eq (so_out E z.2.1 z.2.2 bo fo (vp_updL fo 0 ((z.1 : Int32).toInt64))) hP
  refine lv_goto (tgt := 18) hx hb dL_make_9 (by decide) ?_
  refine lv_iconst (v := 0) hx hb dL_make_18 (by decide) ?_
  exact xw_ret hx hb hr hlocks hP hS (Nat.le_refl _) (Nat.le_refl _) dL_make_19
set_option maxRecDepth 100000 in
set_option maxHeartbeats 40000000 in
theorem c_L_make_t1 (l : Launch) (hstk : l.stackTraces = false) (E : xE) (g : xG) (a : xA) (v1 : Int32) (bo : Nat) (fo : Nat → Int64) {z : Nat × xG × xA} (hf : f_X11_make g a v1 = some (.inl z)) (hz9 : z.1 = 1) : xW l E yL_make cL_make 4 [(0, 9, 12, 13), (0, 9, 15, 18)] 7 153 [.ref (E.2.1 0), .int v1, .ref bo] (wX E g a ++ oC E bo fo) 1 (wX E z.2.1 z.2.2 ++ oC E bo fo) := by
  refine xW_of (by decide) (Nat.le_of_ble_eq_true rfl) ?_
  intro p e s m below meth c A hx hb hr hml hts hown hlocks htab hA hD hP hK hN hT hst hz hnc hS ls hl
  have hw : ∀ w ∈ BW, w.before _ s = true := fun w h => hts w (List.mem_cons_of_mem _ h)
  have hl : lv_has ls 4 [(0, .ref (E.2.1 0)), (1, .int v1), (2, .ref bo)] := hl
  refine lv_aload_n hx hb dL_make_0 rfl (lv_at hl 2 rfl) ?_
  refine lv_iconst (v := 0) hx hb dL_make_1 (by decide) ?_
  refine lv_aload_n hx hb dL_make_2 rfl (lv_at hl 0 rfl) ?_
  refine lv_iload_n hx hb dL_make_3 rfl (lv_at hl 1 rfl) ?_
  refine xtciF (xRunTF (wr := oC E bo fo) (As := [.int v1]) (rest := [.int 0, .ref bo]) (C := RX11) (k := 1) hx hb hml hown hts hA hK hN hT hst hz (c_X11_make l hstk E g a v1 hf) bw632 bw1023 bw13 bw1024 bw1025 ⟨rfl, hd_X11_make⟩ ⟨Nat.le_of_ble_eq_true rfl, Nat.le_of_ble_eq_true rfl⟩ hP hD hS (va_recv hK (frP0 hP) (ci := 11) rfl (gx_0 E g a)) rfl hl.1 rfl (Nat.le_of_ble_eq_true rfl) dL_make_4 ⟨Nat.le_of_ble_eq_true rfl, Nat.le_of_ble_eq_true rfl⟩) hP hS (fun z1 hz1 ce q9 H locs hP hS hce hcv hcl => ?_) (fun z1 hz1 => by cases hz1)
  cases hz1
  rw [hz9] at hcl
  refine vx_catch (name := "java/lang/IllegalArgumentException") (E := exN 1) hown [] { startPc := 0, endPc := 9, handlerPc := 12, catchType := 13 } [{ startPc := 0, endPc := 9, handlerPc := 15, catchType := 18 }] (by rw [htab]; rfl) (fun z hz => absurd hz List.not_mem_nil) (by decide) (by decide) (hw _ bw1000) (hT.cast 1 (by decide) (by decide)) hce hcv hcl ?_
  refine lv_astore_n (lv' := [(3, .ref q9), (0, .ref (E.2.1 0)), (1, .int v1), (2, .ref bo)]) hx hb dL_make_12 rfl hl (by decide) rfl (fun ls hl => ?_)
  refine lv_iconst (v := 1) hx hb dL_make_13 (by decide) ?_
  exact xw_ret hx hb hr hlocks hP hS (Nat.le_refl _) (Nat.le_refl _) dL_make_14
set_option maxRecDepth 100000 in
set_option maxHeartbeats 40000000 in
theorem c_L_make_t2 (l : Launch) (hstk : l.stackTraces = false) (E : xE) (g : xG) (a : xA) (v1 : Int32) (bo : Nat) (fo : Nat → Int64) {z : Nat × xG × xA} (hf : f_X11_make g a v1 = some (.inl z)) (hz9 : z.1 = 2) : xW l E yL_make cL_make 4 [(0, 9, 12, 13), (0, 9, 15, 18)] 7 153 [.ref (E.2.1 0), .int v1, .ref bo] (wX E g a ++ oC E bo fo) 2 (wX E z.2.1 z.2.2 ++ oC E bo fo) := by
  refine xW_of (by decide) (Nat.le_of_ble_eq_true rfl) ?_
  intro p e s m below meth c A hx hb hr hml hts hown hlocks htab hA hD hP hK hN hT hst hz hnc hS ls hl
  have hw : ∀ w ∈ BW, w.before _ s = true := fun w h => hts w (List.mem_cons_of_mem _ h)
  have hl : lv_has ls 4 [(0, .ref (E.2.1 0)), (1, .int v1), (2, .ref bo)] := hl
  refine lv_aload_n hx hb dL_make_0 rfl (lv_at hl 2 rfl) ?_
  refine lv_iconst (v := 0) hx hb dL_make_1 (by decide) ?_
  refine lv_aload_n hx hb dL_make_2 rfl (lv_at hl 0 rfl) ?_
  refine lv_iload_n hx hb dL_make_3 rfl (lv_at hl 1 rfl) ?_
  refine xtciF (xRunTF (wr := oC E bo fo) (As := [.int v1]) (rest := [.int 0, .ref bo]) (C := RX11) (k := 1) hx hb hml hown hts hA hK hN hT hst hz (c_X11_make l hstk E g a v1 hf) bw632 bw1023 bw13 bw1024 bw1025 ⟨rfl, hd_X11_make⟩ ⟨Nat.le_of_ble_eq_true rfl, Nat.le_of_ble_eq_true rfl⟩ hP hD hS (va_recv hK (frP0 hP) (ci := 11) rfl (gx_0 E g a)) rfl hl.1 rfl (Nat.le_of_ble_eq_true rfl) dL_make_4 ⟨Nat.le_of_ble_eq_true rfl, Nat.le_of_ble_eq_true rfl⟩) hP hS (fun z1 hz1 ce q9 H locs hP hS hce hcv hcl => ?_) (fun z1 hz1 => by cases hz1)
  cases hz1
  rw [hz9] at hcl
  refine vx_catch (name := "java/lang/IllegalStateException") (E := exN 2) hown [{ startPc := 0, endPc := 9, handlerPc := 12, catchType := 13 }] { startPc := 0, endPc := 9, handlerPc := 15, catchType := 18 } [] (by rw [htab]; rfl) (fun z hz => by
      simp only [List.mem_cons, List.not_mem_nil, or_false] at hz
      rcases hz with rfl
      · exact Or.inr ⟨by decide, _, hw _ bw1000, hnc 2 1 (by decide) (by decide) (by decide) (by decide) (by decide)⟩) (by decide) (by decide) (hw _ bw1005) (hT.cast 2 (by decide) (by decide)) hce hcv hcl ?_
  refine lv_astore_n (lv' := [(3, .ref q9), (0, .ref (E.2.1 0)), (1, .int v1), (2, .ref bo)]) hx hb dL_make_15 rfl hl (by decide) rfl (fun ls hl => ?_)
  refine lv_iconst (v := 2) hx hb dL_make_16 (by decide) ?_
  exact xw_ret hx hb hr hlocks hP hS (Nat.le_refl _) (Nat.le_refl _) dL_make_17
set_option maxRecDepth 100000 in
set_option maxHeartbeats 40000000 in
theorem c_L_answers_r (l : Launch) (hstk : l.stackTraces = false) (E : xE) (g : xG) (a : xA) (v1 : Int32) (v2 : Int32) (v3 : Int32) (bo : Nat) (fo : Nat → Int64) {z : Int32 × xA} (hf : f_X11_answers g a v1 v2 v3 = some (.inr z)) : xW l E yL_answers cL_answers 6 [(0, 12, 15, 24), (0, 12, 19, 13)] 7 115 [.ref (E.2.1 0), .int v1, .int v2, .int v3, .ref bo] (wX E g a ++ oC E bo fo) 0 (wX E g z.2 ++ oC E bo (vp_updL fo 0 ((z.1 : Int32).toInt64))) := by
  refine xW_of (by decide) (Nat.le_of_ble_eq_true rfl) ?_
  intro p e s m below meth c A hx hb hr hml hts hown hlocks htab hA hD hP hK hN hT hst hz hnc hS ls hl
  have hw : ∀ w ∈ BW, w.before _ s = true := fun w h => hts w (List.mem_cons_of_mem _ h)
  have hl : lv_has ls 6 [(0, .ref (E.2.1 0)), (1, .int v1), (2, .int v2), (3, .int v3), (4, .ref bo)] := hl
  refine lv_aload hx hb dL_answers_0 (lv_at hl 4 rfl) ?_
  refine lv_iconst (v := 0) hx hb dL_answers_2 (by decide) ?_
  refine lv_aload_n hx hb dL_answers_3 rfl (lv_at hl 0 rfl) ?_
  refine lv_iload_n hx hb dL_answers_4 rfl (lv_at hl 1 rfl) ?_
  refine lv_iload_n hx hb dL_answers_5 rfl (lv_at hl 2 rfl) ?_
  refine lv_iload_n hx hb dL_answers_6 rfl (lv_at hl 3 rfl) ?_
  refine xtciF (xRunTF (wr := oC E bo fo) (As := [.int v1, .int v2, .int v3]) (rest := [.int 0, .ref bo]) (C := RX11) (k := 3) hx hb hml hown hts hA hK hN hT hst hz (c_X11_answers l hstk E g a v1 v2 v3 hf) bw637 bw1027 bw13 bw1028 bw1029 ⟨rfl, hd_X11_answers⟩ ⟨Nat.le_of_ble_eq_true rfl, Nat.le_of_ble_eq_true rfl⟩ hP hD hS (va_recv hK (frP0 hP) (ci := 11) rfl (gx_0 E g a)) rfl hl.1 rfl (Nat.le_of_ble_eq_true rfl) dL_answers_7 ⟨Nat.le_of_ble_eq_true rfl, Nat.le_of_ble_eq_true rfl⟩) hP hS (fun z1 hz1 => by cases hz1) (fun z1 hz1 H locs hP hS => ?_)
  cases hz1
  refine lv_i2l (v := ((z.1 : Int32).toInt64)) hx hb dL_answers_10 rfl ?_
  refine va_last hx hb hK hP (va_D.eqv hD rfl) hS 54 3 (go_out E g z.2 bo fo) rfl (inB_in (by decide)) dL_answers_11 (fun H locs hP _ hS => ?_)
  have hP := xP_eq (so_out E g z.2 bo fo (vp_updL fo 0 ((z.1 : Int32).toInt64))) hP
  refine lv_goto (tgt := 23) hx hb dL_answers_12 (by decide) ?_
  refine lv_iconst (v := 0) hx hb dL_answers_23 (by decide) ?_
  exact xw_ret hx hb hr hlocks hP hS (Nat.le_refl _) (Nat.le_refl _) dL_answers_24
set_option maxRecDepth 100000 in
set_option maxHeartbeats 40000000 in
theorem c_L_answers_t3 (l : Launch) (hstk : l.stackTraces = false) (E : xE) (g : xG) (a : xA) (v1 : Int32) (v2 : Int32) (v3 : Int32) (bo : Nat) (fo : Nat → Int64) {z : Nat × xA} (hf : f_X11_answers g a v1 v2 v3 = some (.inl z)) (hz9 : z.1 = 3) : xW l E yL_answers cL_answers 6 [(0, 12, 15, 24), (0, 12, 19, 13)] 7 115 [.ref (E.2.1 0), .int v1, .int v2, .int v3, .ref bo] (wX E g a ++ oC E bo fo) 1 (wX E g z.2 ++ oC E bo fo) := by
  refine xW_of (by decide) (Nat.le_of_ble_eq_true rfl) ?_
  intro p e s m below meth c A hx hb hr hml hts hown hlocks htab hA hD hP hK hN hT hst hz hnc hS ls hl
  have hw : ∀ w ∈ BW, w.before _ s = true := fun w h => hts w (List.mem_cons_of_mem _ h)
  have hl : lv_has ls 6 [(0, .ref (E.2.1 0)), (1, .int v1), (2, .int v2), (3, .int v3), (4, .ref bo)] := hl
  refine lv_aload hx hb dL_answers_0 (lv_at hl 4 rfl) ?_
  refine lv_iconst (v := 0) hx hb dL_answers_2 (by decide) ?_
  refine lv_aload_n hx hb dL_answers_3 rfl (lv_at hl 0 rfl) ?_
  refine lv_iload_n hx hb dL_answers_4 rfl (lv_at hl 1 rfl) ?_
  refine lv_iload_n hx hb dL_answers_5 rfl (lv_at hl 2 rfl) ?_
  refine lv_iload_n hx hb dL_answers_6 rfl (lv_at hl 3 rfl) ?_
  refine xtciF (xRunTF (wr := oC E bo fo) (As := [.int v1, .int v2, .int v3]) (rest := [.int 0, .ref bo]) (C := RX11) (k := 3) hx hb hml hown hts hA hK hN hT hst hz (c_X11_answers l hstk E g a v1 v2 v3 hf) bw637 bw1027 bw13 bw1028 bw1029 ⟨rfl, hd_X11_answers⟩ ⟨Nat.le_of_ble_eq_true rfl, Nat.le_of_ble_eq_true rfl⟩ hP hD hS (va_recv hK (frP0 hP) (ci := 11) rfl (gx_0 E g a)) rfl hl.1 rfl (Nat.le_of_ble_eq_true rfl) dL_answers_7 ⟨Nat.le_of_ble_eq_true rfl, Nat.le_of_ble_eq_true rfl⟩) hP hS (fun z1 hz1 ce q9 H locs hP hS hce hcv hcl => ?_) (fun z1 hz1 => by cases hz1)
  cases hz1
  rw [hz9] at hcl
  refine vx_catch (name := "java/lang/IndexOutOfBoundsException") (E := exN 3) hown [] { startPc := 0, endPc := 12, handlerPc := 15, catchType := 24 } [{ startPc := 0, endPc := 12, handlerPc := 19, catchType := 13 }] (by rw [htab]; rfl) (fun z hz => absurd hz List.not_mem_nil) (by decide) (by decide) (hw _ bw1010) (hT.cast 3 (by decide) (by decide)) hce hcv hcl ?_
  refine lv_astore (lv' := [(5, .ref q9), (0, .ref (E.2.1 0)), (1, .int v1), (2, .int v2), (3, .int v3), (4, .ref bo)]) hx hb dL_answers_15 hl (by decide) rfl (fun ls hl => ?_)
  refine lv_iconst (v := 1) hx hb dL_answers_17 (by decide) ?_
  exact xw_ret hx hb hr hlocks hP hS (Nat.le_refl _) (Nat.le_refl _) dL_answers_18
set_option maxRecDepth 100000 in
set_option maxHeartbeats 40000000 in
theorem c_L_answers_t1 (l : Launch) (hstk : l.stackTraces = false) (E : xE) (g : xG) (a : xA) (v1 : Int32) (v2 : Int32) (v3 : Int32) (bo : Nat) (fo : Nat → Int64) {z : Nat × xA} (hf : f_X11_answers g a v1 v2 v3 = some (.inl z)) (hz9 : z.1 = 1) : xW l E yL_answers cL_answers 6 [(0, 12, 15, 24), (0, 12, 19, 13)] 7 115 [.ref (E.2.1 0), .int v1, .int v2, .int v3, .ref bo] (wX E g a ++ oC E bo fo) 2 (wX E g z.2 ++ oC E bo fo) := by
  refine xW_of (by decide) (Nat.le_of_ble_eq_true rfl) ?_
  intro p e s m below meth c A hx hb hr hml hts hown hlocks htab hA hD hP hK hN hT hst hz hnc hS ls hl
  have hw : ∀ w ∈ BW, w.before _ s = true := fun w h => hts w (List.mem_cons_of_mem _ h)
  have hl : lv_has ls 6 [(0, .ref (E.2.1 0)), (1, .int v1), (2, .int v2), (3, .int v3), (4, .ref bo)] := hl
  refine lv_aload hx hb dL_answers_0 (lv_at hl 4 rfl) ?_
  refine lv_iconst (v := 0) hx hb dL_answers_2 (by decide) ?_
  refine lv_aload_n hx hb dL_answers_3 rfl (lv_at hl 0 rfl) ?_
  refine lv_iload_n hx hb dL_answers_4 rfl (lv_at hl 1 rfl) ?_
  refine lv_iload_n hx hb dL_answers_5 rfl (lv_at hl 2 rfl) ?_
  refine lv_iload_n hx hb dL_answers_6 rfl (lv_at hl 3 rfl) ?_
  refine xtciF (xRunTF (wr := oC E bo fo) (As := [.int v1, .int v2, .int v3]) (rest := [.int 0, .ref bo]) (C := RX11) (k := 3) hx hb hml hown hts hA hK hN hT hst hz (c_X11_answers l hstk E g a v1 v2 v3 hf) bw637 bw1027 bw13 bw1028 bw1029 ⟨rfl, hd_X11_answers⟩ ⟨Nat.le_of_ble_eq_true rfl, Nat.le_of_ble_eq_true rfl⟩ hP hD hS (va_recv hK (frP0 hP) (ci := 11) rfl (gx_0 E g a)) rfl hl.1 rfl (Nat.le_of_ble_eq_true rfl) dL_answers_7 ⟨Nat.le_of_ble_eq_true rfl, Nat.le_of_ble_eq_true rfl⟩) hP hS (fun z1 hz1 ce q9 H locs hP hS hce hcv hcl => ?_) (fun z1 hz1 => by cases hz1)
  cases hz1
  rw [hz9] at hcl
  refine vx_catch (name := "java/lang/IllegalArgumentException") (E := exN 1) hown [{ startPc := 0, endPc := 12, handlerPc := 15, catchType := 24 }] { startPc := 0, endPc := 12, handlerPc := 19, catchType := 13 } [] (by rw [htab]; rfl) (fun z hz => by
      simp only [List.mem_cons, List.not_mem_nil, or_false] at hz
      rcases hz with rfl
      · exact Or.inr ⟨by decide, _, hw _ bw1010, hnc 1 3 (by decide) (by decide) (by decide) (by decide) (by decide)⟩) (by decide) (by decide) (hw _ bw1000) (hT.cast 1 (by decide) (by decide)) hce hcv hcl ?_
  refine lv_astore (lv' := [(5, .ref q9), (0, .ref (E.2.1 0)), (1, .int v1), (2, .int v2), (3, .int v3), (4, .ref bo)]) hx hb dL_answers_19 hl (by decide) rfl (fun ls hl => ?_)
  refine lv_iconst (v := 2) hx hb dL_answers_21 (by decide) ?_
  exact xw_ret hx hb hr hlocks hP hS (Nat.le_refl _) (Nat.le_refl _) dL_answers_22
set_option maxRecDepth 100000 in
set_option maxHeartbeats 40000000 in
theorem c_L_code_r (l : Launch) (hstk : l.stackTraces = false) (E : xE) (g : xG) (a : xA) (v1 : Int32) (bo : Nat) (fo : Nat → Int64) {z : Int64} (hf : f_X11_code g a v1 = some (.inr z)) : xW l E yL_code cL_code 4 [(0, 8, 11, 24)] 7 112 [.ref (E.2.1 0), .int v1, .ref bo] (wX E g a ++ oC E bo fo) 0 (wX E g a ++ oC E bo (vp_updL fo 0 z)) := by
  refine xW_of (by decide) (Nat.le_of_ble_eq_true rfl) ?_
  intro p e s m below meth c A hx hb hr hml hts hown hlocks htab hA hD hP hK hN hT hst hz hnc hS ls hl
  have hw : ∀ w ∈ BW, w.before _ s = true := fun w h => hts w (List.mem_cons_of_mem _ h)
  have hl : lv_has ls 4 [(0, .ref (E.2.1 0)), (1, .int v1), (2, .ref bo)] := hl
  refine lv_aload_n hx hb dL_code_0 rfl (lv_at hl 2 rfl) ?_
  refine lv_iconst (v := 0) hx hb dL_code_1 (by decide) ?_
  refine lv_aload_n hx hb dL_code_2 rfl (lv_at hl 0 rfl) ?_
  refine lv_iload_n hx hb dL_code_3 rfl (lv_at hl 1 rfl) ?_
  refine xtclF (xRunTF (wr := oC E bo fo) (As := [.int v1]) (rest := [.int 0, .ref bo]) (C := RX11) (k := 1) hx hb hml hown hts hA hK hN hT hst hz (c_X11_code l hstk E g a v1 hf) bw639 bw1031 bw13 bw1032 bw1033 ⟨rfl, hd_X11_code⟩ ⟨Nat.le_of_ble_eq_true rfl, Nat.le_of_ble_eq_true rfl⟩ hP hD hS (va_recv hK (frP0 hP) (ci := 11) rfl (gx_0 E g a)) rfl hl.1 rfl (Nat.le_of_ble_eq_true rfl) dL_code_4 ⟨Nat.le_of_ble_eq_true rfl, Nat.le_of_ble_eq_true rfl⟩) hP hS (fun z1 hz1 => by cases hz1) (fun z1 hz1 H locs hP hS => ?_)
  cases hz1
  refine va_last hx hb hK hP (va_D.eqv hD rfl) hS 54 3 (go_out E g a bo fo) rfl (inB_in (by decide)) dL_code_7 (fun H locs hP _ hS => ?_)
  have hP := xP_eq (so_out E g a bo fo (vp_updL fo 0 z)) hP
  refine lv_goto (tgt := 14) hx hb dL_code_8 (by decide) ?_
  refine lv_iconst (v := 0) hx hb dL_code_14 (by decide) ?_
  exact xw_ret hx hb hr hlocks hP hS (Nat.le_refl _) (Nat.le_refl _) dL_code_15
set_option maxRecDepth 100000 in
set_option maxHeartbeats 40000000 in
theorem c_L_code_t3 (l : Launch) (hstk : l.stackTraces = false) (E : xE) (g : xG) (a : xA) (v1 : Int32) (bo : Nat) (fo : Nat → Int64) {z : Nat} (hf : f_X11_code g a v1 = some (.inl z)) (hz9 : z = 3) : xW l E yL_code cL_code 4 [(0, 8, 11, 24)] 7 112 [.ref (E.2.1 0), .int v1, .ref bo] (wX E g a ++ oC E bo fo) 1 (wX E g a ++ oC E bo fo) := by
  refine xW_of (by decide) (Nat.le_of_ble_eq_true rfl) ?_
  intro p e s m below meth c A hx hb hr hml hts hown hlocks htab hA hD hP hK hN hT hst hz hnc hS ls hl
  have hw : ∀ w ∈ BW, w.before _ s = true := fun w h => hts w (List.mem_cons_of_mem _ h)
  have hl : lv_has ls 4 [(0, .ref (E.2.1 0)), (1, .int v1), (2, .ref bo)] := hl
  refine lv_aload_n hx hb dL_code_0 rfl (lv_at hl 2 rfl) ?_
  refine lv_iconst (v := 0) hx hb dL_code_1 (by decide) ?_
  refine lv_aload_n hx hb dL_code_2 rfl (lv_at hl 0 rfl) ?_
  refine lv_iload_n hx hb dL_code_3 rfl (lv_at hl 1 rfl) ?_
  refine xtclF (xRunTF (wr := oC E bo fo) (As := [.int v1]) (rest := [.int 0, .ref bo]) (C := RX11) (k := 1) hx hb hml hown hts hA hK hN hT hst hz (c_X11_code l hstk E g a v1 hf) bw639 bw1031 bw13 bw1032 bw1033 ⟨rfl, hd_X11_code⟩ ⟨Nat.le_of_ble_eq_true rfl, Nat.le_of_ble_eq_true rfl⟩ hP hD hS (va_recv hK (frP0 hP) (ci := 11) rfl (gx_0 E g a)) rfl hl.1 rfl (Nat.le_of_ble_eq_true rfl) dL_code_4 ⟨Nat.le_of_ble_eq_true rfl, Nat.le_of_ble_eq_true rfl⟩) hP hS (fun z1 hz1 ce q9 H locs hP hS hce hcv hcl => ?_) (fun z1 hz1 => by cases hz1)
  cases hz1
  rw [hz9] at hcl
  refine vx_catch (name := "java/lang/IndexOutOfBoundsException") (E := exN 3) hown [] { startPc := 0, endPc := 8, handlerPc := 11, catchType := 24 } [] (by rw [htab]; rfl) (fun z hz => absurd hz List.not_mem_nil) (by decide) (by decide) (hw _ bw1010) (hT.cast 3 (by decide) (by decide)) hce hcv hcl ?_
  refine lv_astore_n (lv' := [(3, .ref q9), (0, .ref (E.2.1 0)), (1, .int v1), (2, .ref bo)]) hx hb dL_code_11 rfl hl (by decide) rfl (fun ls hl => ?_)
  refine lv_iconst (v := 1) hx hb dL_code_12 (by decide) ?_
  exact xw_ret hx hb hr hlocks hP hS (Nat.le_refl _) (Nat.le_refl _) dL_code_13
set_option maxRecDepth 100000 in
set_option maxHeartbeats 40000000 in
theorem c_L_keeps_r (l : Launch) (hstk : l.stackTraces = false) (E : xE) (g : xG) (a : xA) (v1 : Int32) (v2 : Int32) (bo : Nat) (fo : Nat → Int64) {z : Int32 × xG × xA} (hf : f_X11_keeps g a v1 v2 = some (.inr z)) : xW l E yL_keeps cL_keeps 5 [(0, 17, 20, 24)] 7 138 [.ref (E.2.1 0), .int v1, .int v2, .ref bo] (wX E g a ++ oC E bo fo) 0 (wX E z.2.1 z.2.2 ++ oC E bo (vp_updL fo 0 (if z.1 = 0 then 0 else 1))) := by
  refine xW_of (by decide) (Nat.le_of_ble_eq_true rfl) ?_
  intro p e s m below meth c A hx hb hr hml hts hown hlocks htab hA hD hP hK hN hT hst hz hnc hS ls hl
  have hw : ∀ w ∈ BW, w.before _ s = true := fun w h => hts w (List.mem_cons_of_mem _ h)
  have hl : lv_has ls 5 [(0, .ref (E.2.1 0)), (1, .int v1), (2, .int v2), (3, .ref bo)] := hl
  refine lv_aload_n hx hb dL_keeps_0 rfl (lv_at hl 3 rfl) ?_
  refine lv_iconst (v := 0) hx hb dL_keeps_1 (by decide) ?_
  refine lv_aload_n hx hb dL_keeps_2 rfl (lv_at hl 0 rfl) ?_
  refine lv_iload_n hx hb dL_keeps_3 rfl (lv_at hl 1 rfl) ?_
  refine lv_iload_n hx hb dL_keeps_4 rfl (lv_at hl 2 rfl) ?_
  refine xtciF (xRunTF (wr := oC E bo fo) (As := [.int v1, .int v2]) (rest := [.int 0, .ref bo]) (C := RX11) (k := 2) hx hb hml hown hts hA hK hN hT hst hz (c_X11_keeps l hstk E g a v1 v2 hf) bw641 bw1035 bw13 bw1036 bw1037 ⟨rfl, hd_X11_keeps⟩ ⟨Nat.le_of_ble_eq_true rfl, Nat.le_of_ble_eq_true rfl⟩ hP hD hS (va_recv hK (frP0 hP) (ci := 11) rfl (gx_0 E g a)) rfl hl.1 rfl (Nat.le_of_ble_eq_true rfl) dL_keeps_5 ⟨Nat.le_of_ble_eq_true rfl, Nat.le_of_ble_eq_true rfl⟩) hP hS (fun z1 hz1 => by cases hz1) (fun z1 hz1 H locs hP hS => ?_)
  cases hz1
  refine lv_if_eq (tgt := 15) hx hb dL_keeps_8 (by decide) (fun c1 => ?_) (fun c1 => ?_)
  · refine lv_lconst (v := 0) hx hb dL_keeps_15 (by decide) ?_
    refine va_last hx hb hK hP (va_D.eqv hD rfl) hS 54 3 (go_out E z.2.1 z.2.2 bo fo) rfl (inB_in (by decide)) dL_keeps_16 (fun H locs hP _ hS => ?_)
    have hP := xP_eq (so_out E z.2.1 z.2.2 bo fo (vp_updL fo 0 0)) hP
    have hP : va_P E.1 vwCl (wX E z.2.1 z.2.2 ++ oC E bo (vp_updL fo 0 (if z.1 = 0 then 0 else 1))) H := by rw [if_pos c1]; exact hP
    refine lv_goto (tgt := 24) hx hb dL_keeps_17 (by decide) ?_
    refine lv_iconst (v := 0) hx hb dL_keeps_24 (by decide) ?_
    exact xw_ret hx hb hr hlocks hP hS (Nat.le_refl _) (Nat.le_refl _) dL_keeps_25
  · refine lv_lconst (v := 1) hx hb dL_keeps_11 (by decide) ?_
    refine lv_goto (tgt := 16) hx hb dL_keeps_12 (by decide) ?_
    refine va_last hx hb hK hP (va_D.eqv hD rfl) hS 54 3 (go_out E z.2.1 z.2.2 bo fo) rfl (inB_in (by decide)) dL_keeps_16 (fun H locs hP _ hS => ?_)
    have hP := xP_eq (so_out E z.2.1 z.2.2 bo fo (vp_updL fo 0 1)) hP
    have hP : va_P E.1 vwCl (wX E z.2.1 z.2.2 ++ oC E bo (vp_updL fo 0 (if z.1 = 0 then 0 else 1))) H := by rw [if_neg c1]; exact hP
    refine lv_goto (tgt := 24) hx hb dL_keeps_17 (by decide) ?_
    refine lv_iconst (v := 0) hx hb dL_keeps_24 (by decide) ?_
    exact xw_ret hx hb hr hlocks hP hS (Nat.le_refl _) (Nat.le_refl _) dL_keeps_25
set_option maxRecDepth 100000 in
set_option maxHeartbeats 40000000 in
theorem c_L_keeps_t3 (l : Launch) (hstk : l.stackTraces = false) (E : xE) (g : xG) (a : xA) (v1 : Int32) (v2 : Int32) (bo : Nat) (fo : Nat → Int64) {z : Nat × xG × xA} (hf : f_X11_keeps g a v1 v2 = some (.inl z)) (hz9 : z.1 = 3) : xW l E yL_keeps cL_keeps 5 [(0, 17, 20, 24)] 7 138 [.ref (E.2.1 0), .int v1, .int v2, .ref bo] (wX E g a ++ oC E bo fo) 1 (wX E z.2.1 z.2.2 ++ oC E bo fo) := by
  refine xW_of (by decide) (Nat.le_of_ble_eq_true rfl) ?_
  intro p e s m below meth c A hx hb hr hml hts hown hlocks htab hA hD hP hK hN hT hst hz hnc hS ls hl
  have hw : ∀ w ∈ BW, w.before _ s = true := fun w h => hts w (List.mem_cons_of_mem _ h)
  have hl : lv_has ls 5 [(0, .ref (E.2.1 0)), (1, .int v1), (2, .int v2), (3, .ref bo)] := hl
  refine lv_aload_n hx hb dL_keeps_0 rfl (lv_at hl 3 rfl) ?_
  refine lv_iconst (v := 0) hx hb dL_keeps_1 (by decide) ?_
  refine lv_aload_n hx hb dL_keeps_2 rfl (lv_at hl 0 rfl) ?_
  refine lv_iload_n hx hb dL_keeps_3 rfl (lv_at hl 1 rfl) ?_
  refine lv_iload_n hx hb dL_keeps_4 rfl (lv_at hl 2 rfl) ?_
  refine xtciF (xRunTF (wr := oC E bo fo) (As := [.int v1, .int v2]) (rest := [.int 0, .ref bo]) (C := RX11) (k := 2) hx hb hml hown hts hA hK hN hT hst hz (c_X11_keeps l hstk E g a v1 v2 hf) bw641 bw1035 bw13 bw1036 bw1037 ⟨rfl, hd_X11_keeps⟩ ⟨Nat.le_of_ble_eq_true rfl, Nat.le_of_ble_eq_true rfl⟩ hP hD hS (va_recv hK (frP0 hP) (ci := 11) rfl (gx_0 E g a)) rfl hl.1 rfl (Nat.le_of_ble_eq_true rfl) dL_keeps_5 ⟨Nat.le_of_ble_eq_true rfl, Nat.le_of_ble_eq_true rfl⟩) hP hS (fun z1 hz1 ce q9 H locs hP hS hce hcv hcl => ?_) (fun z1 hz1 => by cases hz1)
  cases hz1
  rw [hz9] at hcl
  refine vx_catch (name := "java/lang/IndexOutOfBoundsException") (E := exN 3) hown [] { startPc := 0, endPc := 17, handlerPc := 20, catchType := 24 } [] (by rw [htab]; rfl) (fun z hz => absurd hz List.not_mem_nil) (by decide) (by decide) (hw _ bw1010) (hT.cast 3 (by decide) (by decide)) hce hcv hcl ?_
  refine lv_astore (lv' := [(4, .ref q9), (0, .ref (E.2.1 0)), (1, .int v1), (2, .int v2), (3, .ref bo)]) hx hb dL_keeps_20 hl (by decide) rfl (fun ls hl => ?_)
  refine lv_iconst (v := 1) hx hb dL_keeps_22 (by decide) ?_
  exact xw_ret hx hb hr hlocks hP hS (Nat.le_refl _) (Nat.le_refl _) dL_keeps_23
set_option maxRecDepth 100000 in
set_option maxHeartbeats 40000000 in
theorem c_L_breaks_r (l : Launch) (hstk : l.stackTraces = false) (E : xE) (g : xG) (a : xA) (v1 : Int32) (v2 : Int32) (bo : Nat) (fo : Nat → Int64) {z : Int32 × xG × xA} (hf : f_X11_breaks g a v1 v2 = some (.inr z)) : xW l E yL_breaks cL_breaks 5 [(0, 10, 13, 24)] 7 138 [.ref (E.2.1 0), .int v1, .int v2, .ref bo] (wX E g a ++ oC E bo fo) 0 (wX E z.2.1 z.2.2 ++ oC E bo (vp_updL fo 0 ((z.1 : Int32).toInt64))) := by
  refine xW_of (by decide) (Nat.le_of_ble_eq_true rfl) ?_
  intro p e s m below meth c A hx hb hr hml hts hown hlocks htab hA hD hP hK hN hT hst hz hnc hS ls hl
  have hw : ∀ w ∈ BW, w.before _ s = true := fun w h => hts w (List.mem_cons_of_mem _ h)
  have hl : lv_has ls 5 [(0, .ref (E.2.1 0)), (1, .int v1), (2, .int v2), (3, .ref bo)] := hl
  refine lv_aload_n hx hb dL_breaks_0 rfl (lv_at hl 3 rfl) ?_
  refine lv_iconst (v := 0) hx hb dL_breaks_1 (by decide) ?_
  refine lv_aload_n hx hb dL_breaks_2 rfl (lv_at hl 0 rfl) ?_
  refine lv_iload_n hx hb dL_breaks_3 rfl (lv_at hl 1 rfl) ?_
  refine lv_iload_n hx hb dL_breaks_4 rfl (lv_at hl 2 rfl) ?_
  refine xtciF (xRunTF (wr := oC E bo fo) (As := [.int v1, .int v2]) (rest := [.int 0, .ref bo]) (C := RX11) (k := 2) hx hb hml hown hts hA hK hN hT hst hz (c_X11_breaks l hstk E g a v1 v2 hf) bw645 bw1039 bw13 bw1040 bw1041 ⟨rfl, hd_X11_breaks⟩ ⟨Nat.le_of_ble_eq_true rfl, Nat.le_of_ble_eq_true rfl⟩ hP hD hS (va_recv hK (frP0 hP) (ci := 11) rfl (gx_0 E g a)) rfl hl.1 rfl (Nat.le_of_ble_eq_true rfl) dL_breaks_5 ⟨Nat.le_of_ble_eq_true rfl, Nat.le_of_ble_eq_true rfl⟩) hP hS (fun z1 hz1 => by cases hz1) (fun z1 hz1 H locs hP hS => ?_)
  cases hz1
  refine lv_i2l (v := ((z.1 : Int32).toInt64)) hx hb dL_breaks_8 rfl ?_
  refine va_last hx hb hK hP (va_D.eqv hD rfl) hS 54 3 (go_out E z.2.1 z.2.2 bo fo) rfl (inB_in (by decide)) dL_breaks_9 (fun H locs hP _ hS => ?_)
  have hP := xP_eq (so_out E z.2.1 z.2.2 bo fo (vp_updL fo 0 ((z.1 : Int32).toInt64))) hP
  refine lv_goto (tgt := 17) hx hb dL_breaks_10 (by decide) ?_
  refine lv_iconst (v := 0) hx hb dL_breaks_17 (by decide) ?_
  exact xw_ret hx hb hr hlocks hP hS (Nat.le_refl _) (Nat.le_refl _) dL_breaks_18
set_option maxRecDepth 100000 in
set_option maxHeartbeats 40000000 in
theorem c_L_breaks_t3 (l : Launch) (hstk : l.stackTraces = false) (E : xE) (g : xG) (a : xA) (v1 : Int32) (v2 : Int32) (bo : Nat) (fo : Nat → Int64) {z : Nat × xG × xA} (hf : f_X11_breaks g a v1 v2 = some (.inl z)) (hz9 : z.1 = 3) : xW l E yL_breaks cL_breaks 5 [(0, 10, 13, 24)] 7 138 [.ref (E.2.1 0), .int v1, .int v2, .ref bo] (wX E g a ++ oC E bo fo) 1 (wX E z.2.1 z.2.2 ++ oC E bo fo) := by
  refine xW_of (by decide) (Nat.le_of_ble_eq_true rfl) ?_
  intro p e s m below meth c A hx hb hr hml hts hown hlocks htab hA hD hP hK hN hT hst hz hnc hS ls hl
  have hw : ∀ w ∈ BW, w.before _ s = true := fun w h => hts w (List.mem_cons_of_mem _ h)
  have hl : lv_has ls 5 [(0, .ref (E.2.1 0)), (1, .int v1), (2, .int v2), (3, .ref bo)] := hl
  refine lv_aload_n hx hb dL_breaks_0 rfl (lv_at hl 3 rfl) ?_
  refine lv_iconst (v := 0) hx hb dL_breaks_1 (by decide) ?_
  refine lv_aload_n hx hb dL_breaks_2 rfl (lv_at hl 0 rfl) ?_
  refine lv_iload_n hx hb dL_breaks_3 rfl (lv_at hl 1 rfl) ?_
  refine lv_iload_n hx hb dL_breaks_4 rfl (lv_at hl 2 rfl) ?_
  refine xtciF (xRunTF (wr := oC E bo fo) (As := [.int v1, .int v2]) (rest := [.int 0, .ref bo]) (C := RX11) (k := 2) hx hb hml hown hts hA hK hN hT hst hz (c_X11_breaks l hstk E g a v1 v2 hf) bw645 bw1039 bw13 bw1040 bw1041 ⟨rfl, hd_X11_breaks⟩ ⟨Nat.le_of_ble_eq_true rfl, Nat.le_of_ble_eq_true rfl⟩ hP hD hS (va_recv hK (frP0 hP) (ci := 11) rfl (gx_0 E g a)) rfl hl.1 rfl (Nat.le_of_ble_eq_true rfl) dL_breaks_5 ⟨Nat.le_of_ble_eq_true rfl, Nat.le_of_ble_eq_true rfl⟩) hP hS (fun z1 hz1 ce q9 H locs hP hS hce hcv hcl => ?_) (fun z1 hz1 => by cases hz1)
  cases hz1
  rw [hz9] at hcl
  refine vx_catch (name := "java/lang/IndexOutOfBoundsException") (E := exN 3) hown [] { startPc := 0, endPc := 10, handlerPc := 13, catchType := 24 } [] (by rw [htab]; rfl) (fun z hz => absurd hz List.not_mem_nil) (by decide) (by decide) (hw _ bw1010) (hT.cast 3 (by decide) (by decide)) hce hcv hcl ?_
  refine lv_astore (lv' := [(4, .ref q9), (0, .ref (E.2.1 0)), (1, .int v1), (2, .int v2), (3, .ref bo)]) hx hb dL_breaks_13 hl (by decide) rfl (fun ls hl => ?_)
  refine lv_iconst (v := 1) hx hb dL_breaks_15 (by decide) ?_
  exact xw_ret hx hb hr hlocks hP hS (Nat.le_refl _) (Nat.le_refl _) dL_breaks_16
set_option maxRecDepth 100000 in
set_option maxHeartbeats 40000000 in
theorem c_L_has_r (l : Launch) (hstk : l.stackTraces = false) (E : xE) (g : xG) (a : xA) (v1 : Int32) (v2 : Int32) (bo : Nat) (fo : Nat → Int64) {z : Int32} (hf : f_X11_has g a v1 v2 = some (.inr z)) : xW l E yL_has cL_has 5 [(0, 17, 20, 24), (0, 17, 24, 13)] 7 136 [.ref (E.2.1 0), .int v1, .int v2, .ref bo] (wX E g a ++ oC E bo fo) 0 (wX E g a ++ oC E bo (vp_updL fo 0 (if z = 0 then 0 else 1))) := by
  refine xW_of (by decide) (Nat.le_of_ble_eq_true rfl) ?_
  intro p e s m below meth c A hx hb hr hml hts hown hlocks htab hA hD hP hK hN hT hst hz hnc hS ls hl
  have hw : ∀ w ∈ BW, w.before _ s = true := fun w h => hts w (List.mem_cons_of_mem _ h)
  have hl : lv_has ls 5 [(0, .ref (E.2.1 0)), (1, .int v1), (2, .int v2), (3, .ref bo)] := hl
  refine lv_aload_n hx hb dL_has_0 rfl (lv_at hl 3 rfl) ?_
  refine lv_iconst (v := 0) hx hb dL_has_1 (by decide) ?_
  refine lv_aload_n hx hb dL_has_2 rfl (lv_at hl 0 rfl) ?_
  refine lv_iload_n hx hb dL_has_3 rfl (lv_at hl 1 rfl) ?_
  refine lv_iload_n hx hb dL_has_4 rfl (lv_at hl 2 rfl) ?_
  refine xtciF (xRunTF (wr := oC E bo fo) (As := [.int v1, .int v2]) (rest := [.int 0, .ref bo]) (C := RX11) (k := 2) hx hb hml hown hts hA hK hN hT hst hz (c_X11_has l hstk E g a v1 v2 hf) bw659 bw1043 bw13 bw1044 bw1045 ⟨rfl, hd_X11_has⟩ ⟨Nat.le_of_ble_eq_true rfl, Nat.le_of_ble_eq_true rfl⟩ hP hD hS (va_recv hK (frP0 hP) (ci := 11) rfl (gx_0 E g a)) rfl hl.1 rfl (Nat.le_of_ble_eq_true rfl) dL_has_5 ⟨Nat.le_of_ble_eq_true rfl, Nat.le_of_ble_eq_true rfl⟩) hP hS (fun z1 hz1 => by cases hz1) (fun z1 hz1 H locs hP hS => ?_)
  cases hz1
  refine lv_if_eq (tgt := 15) hx hb dL_has_8 (by decide) (fun c1 => ?_) (fun c1 => ?_)
  · refine lv_lconst (v := 0) hx hb dL_has_15 (by decide) ?_
    refine va_last hx hb hK hP (va_D.eqv hD rfl) hS 54 3 (go_out E g a bo fo) rfl (inB_in (by decide)) dL_has_16 (fun H locs hP _ hS => ?_)
    have hP := xP_eq (so_out E g a bo fo (vp_updL fo 0 0)) hP
    have hP : va_P E.1 vwCl (wX E g a ++ oC E bo (vp_updL fo 0 (if z = 0 then 0 else 1))) H := by rw [if_pos c1]; exact hP
    refine lv_goto (tgt := 28) hx hb dL_has_17 (by decide) ?_
    refine lv_iconst (v := 0) hx hb dL_has_28 (by decide) ?_
    exact xw_ret hx hb hr hlocks hP hS (Nat.le_refl _) (Nat.le_refl _) dL_has_29
  · refine lv_lconst (v := 1) hx hb dL_has_11 (by decide) ?_
    refine lv_goto (tgt := 16) hx hb dL_has_12 (by decide) ?_
    refine va_last hx hb hK hP (va_D.eqv hD rfl) hS 54 3 (go_out E g a bo fo) rfl (inB_in (by decide)) dL_has_16 (fun H locs hP _ hS => ?_)
    have hP := xP_eq (so_out E g a bo fo (vp_updL fo 0 1)) hP
    have hP : va_P E.1 vwCl (wX E g a ++ oC E bo (vp_updL fo 0 (if z = 0 then 0 else 1))) H := by rw [if_neg c1]; exact hP
    refine lv_goto (tgt := 28) hx hb dL_has_17 (by decide) ?_
    refine lv_iconst (v := 0) hx hb dL_has_28 (by decide) ?_
    exact xw_ret hx hb hr hlocks hP hS (Nat.le_refl _) (Nat.le_refl _) dL_has_29
set_option maxRecDepth 100000 in
set_option maxHeartbeats 40000000 in
theorem c_L_has_t3 (l : Launch) (hstk : l.stackTraces = false) (E : xE) (g : xG) (a : xA) (v1 : Int32) (v2 : Int32) (bo : Nat) (fo : Nat → Int64) {z : Nat} (hf : f_X11_has g a v1 v2 = some (.inl z)) (hz9 : z = 3) : xW l E yL_has cL_has 5 [(0, 17, 20, 24), (0, 17, 24, 13)] 7 136 [.ref (E.2.1 0), .int v1, .int v2, .ref bo] (wX E g a ++ oC E bo fo) 1 (wX E g a ++ oC E bo fo) := by
  refine xW_of (by decide) (Nat.le_of_ble_eq_true rfl) ?_
  intro p e s m below meth c A hx hb hr hml hts hown hlocks htab hA hD hP hK hN hT hst hz hnc hS ls hl
  have hw : ∀ w ∈ BW, w.before _ s = true := fun w h => hts w (List.mem_cons_of_mem _ h)
  have hl : lv_has ls 5 [(0, .ref (E.2.1 0)), (1, .int v1), (2, .int v2), (3, .ref bo)] := hl
  refine lv_aload_n hx hb dL_has_0 rfl (lv_at hl 3 rfl) ?_
  refine lv_iconst (v := 0) hx hb dL_has_1 (by decide) ?_
  refine lv_aload_n hx hb dL_has_2 rfl (lv_at hl 0 rfl) ?_
  refine lv_iload_n hx hb dL_has_3 rfl (lv_at hl 1 rfl) ?_
  refine lv_iload_n hx hb dL_has_4 rfl (lv_at hl 2 rfl) ?_
  refine xtciF (xRunTF (wr := oC E bo fo) (As := [.int v1, .int v2]) (rest := [.int 0, .ref bo]) (C := RX11) (k := 2) hx hb hml hown hts hA hK hN hT hst hz (c_X11_has l hstk E g a v1 v2 hf) bw659 bw1043 bw13 bw1044 bw1045 ⟨rfl, hd_X11_has⟩ ⟨Nat.le_of_ble_eq_true rfl, Nat.le_of_ble_eq_true rfl⟩ hP hD hS (va_recv hK (frP0 hP) (ci := 11) rfl (gx_0 E g a)) rfl hl.1 rfl (Nat.le_of_ble_eq_true rfl) dL_has_5 ⟨Nat.le_of_ble_eq_true rfl, Nat.le_of_ble_eq_true rfl⟩) hP hS (fun z1 hz1 ce q9 H locs hP hS hce hcv hcl => ?_) (fun z1 hz1 => by cases hz1)
  cases hz1
  rw [hz9] at hcl
  refine vx_catch (name := "java/lang/IndexOutOfBoundsException") (E := exN 3) hown [] { startPc := 0, endPc := 17, handlerPc := 20, catchType := 24 } [{ startPc := 0, endPc := 17, handlerPc := 24, catchType := 13 }] (by rw [htab]; rfl) (fun z hz => absurd hz List.not_mem_nil) (by decide) (by decide) (hw _ bw1010) (hT.cast 3 (by decide) (by decide)) hce hcv hcl ?_
  refine lv_astore (lv' := [(4, .ref q9), (0, .ref (E.2.1 0)), (1, .int v1), (2, .int v2), (3, .ref bo)]) hx hb dL_has_20 hl (by decide) rfl (fun ls hl => ?_)
  refine lv_iconst (v := 1) hx hb dL_has_22 (by decide) ?_
  exact xw_ret hx hb hr hlocks hP hS (Nat.le_refl _) (Nat.le_refl _) dL_has_23
set_option maxRecDepth 100000 in
set_option maxHeartbeats 40000000 in
theorem c_L_has_t1 (l : Launch) (hstk : l.stackTraces = false) (E : xE) (g : xG) (a : xA) (v1 : Int32) (v2 : Int32) (bo : Nat) (fo : Nat → Int64) {z : Nat} (hf : f_X11_has g a v1 v2 = some (.inl z)) (hz9 : z = 1) : xW l E yL_has cL_has 5 [(0, 17, 20, 24), (0, 17, 24, 13)] 7 136 [.ref (E.2.1 0), .int v1, .int v2, .ref bo] (wX E g a ++ oC E bo fo) 2 (wX E g a ++ oC E bo fo) := by
  refine xW_of (by decide) (Nat.le_of_ble_eq_true rfl) ?_
  intro p e s m below meth c A hx hb hr hml hts hown hlocks htab hA hD hP hK hN hT hst hz hnc hS ls hl
  have hw : ∀ w ∈ BW, w.before _ s = true := fun w h => hts w (List.mem_cons_of_mem _ h)
  have hl : lv_has ls 5 [(0, .ref (E.2.1 0)), (1, .int v1), (2, .int v2), (3, .ref bo)] := hl
  refine lv_aload_n hx hb dL_has_0 rfl (lv_at hl 3 rfl) ?_
  refine lv_iconst (v := 0) hx hb dL_has_1 (by decide) ?_
  refine lv_aload_n hx hb dL_has_2 rfl (lv_at hl 0 rfl) ?_
  refine lv_iload_n hx hb dL_has_3 rfl (lv_at hl 1 rfl) ?_
  refine lv_iload_n hx hb dL_has_4 rfl (lv_at hl 2 rfl) ?_
  refine xtciF (xRunTF (wr := oC E bo fo) (As := [.int v1, .int v2]) (rest := [.int 0, .ref bo]) (C := RX11) (k := 2) hx hb hml hown hts hA hK hN hT hst hz (c_X11_has l hstk E g a v1 v2 hf) bw659 bw1043 bw13 bw1044 bw1045 ⟨rfl, hd_X11_has⟩ ⟨Nat.le_of_ble_eq_true rfl, Nat.le_of_ble_eq_true rfl⟩ hP hD hS (va_recv hK (frP0 hP) (ci := 11) rfl (gx_0 E g a)) rfl hl.1 rfl (Nat.le_of_ble_eq_true rfl) dL_has_5 ⟨Nat.le_of_ble_eq_true rfl, Nat.le_of_ble_eq_true rfl⟩) hP hS (fun z1 hz1 ce q9 H locs hP hS hce hcv hcl => ?_) (fun z1 hz1 => by cases hz1)
  cases hz1
  rw [hz9] at hcl
  refine vx_catch (name := "java/lang/IllegalArgumentException") (E := exN 1) hown [{ startPc := 0, endPc := 17, handlerPc := 20, catchType := 24 }] { startPc := 0, endPc := 17, handlerPc := 24, catchType := 13 } [] (by rw [htab]; rfl) (fun z hz => by
      simp only [List.mem_cons, List.not_mem_nil, or_false] at hz
      rcases hz with rfl
      · exact Or.inr ⟨by decide, _, hw _ bw1010, hnc 1 3 (by decide) (by decide) (by decide) (by decide) (by decide)⟩) (by decide) (by decide) (hw _ bw1000) (hT.cast 1 (by decide) (by decide)) hce hcv hcl ?_
  refine lv_astore (lv' := [(4, .ref q9), (0, .ref (E.2.1 0)), (1, .int v1), (2, .int v2), (3, .ref bo)]) hx hb dL_has_24 hl (by decide) rfl (fun ls hl => ?_)
  refine lv_iconst (v := 2) hx hb dL_has_26 (by decide) ?_
  exact xw_ret hx hb hr hlocks hP hS (Nat.le_refl _) (Nat.le_refl _) dL_has_27
set_option maxRecDepth 100000 in
set_option maxHeartbeats 40000000 in
theorem c_L_closed_r (l : Launch) (hstk : l.stackTraces = false) (E : xE) (g : xG) (a : xA) (v1 : Int32) (v2 : Int32) (bo : Nat) (fo : Nat → Int64) {z : Int32 × xG × xA} (hf : f_X11_closed g a v1 v2 = some (.inr z)) : xW l E yL_closed cL_closed 5 [(0, 10, 13, 24)] 7 164 [.ref (E.2.1 0), .int v1, .int v2, .ref bo] (wX E g a ++ oC E bo fo) 0 (wX E z.2.1 z.2.2 ++ oC E bo (vp_updL fo 0 ((z.1 : Int32).toInt64))) := by
  refine xW_of (by decide) (Nat.le_of_ble_eq_true rfl) ?_
  intro p e s m below meth c A hx hb hr hml hts hown hlocks htab hA hD hP hK hN hT hst hz hnc hS ls hl
  have hw : ∀ w ∈ BW, w.before _ s = true := fun w h => hts w (List.mem_cons_of_mem _ h)
  have hl : lv_has ls 5 [(0, .ref (E.2.1 0)), (1, .int v1), (2, .int v2), (3, .ref bo)] := hl
  refine lv_aload_n hx hb dL_closed_0 rfl (lv_at hl 3 rfl) ?_
  refine lv_iconst (v := 0) hx hb dL_closed_1 (by decide) ?_
  refine lv_aload_n hx hb dL_closed_2 rfl (lv_at hl 0 rfl) ?_
  refine lv_iload_n hx hb dL_closed_3 rfl (lv_at hl 1 rfl) ?_
  refine lv_iload_n hx hb dL_closed_4 rfl (lv_at hl 2 rfl) ?_
  refine xtciF (xRunTF (wr := oC E bo fo) (As := [.int v1, .int v2]) (rest := [.int 0, .ref bo]) (C := RX11) (k := 2) hx hb hml hown hts hA hK hN hT hst hz (c_X11_closed l hstk E g a v1 v2 hf) bw663 bw1047 bw13 bw1048 bw1049 ⟨rfl, hd_X11_closed⟩ ⟨Nat.le_of_ble_eq_true rfl, Nat.le_of_ble_eq_true rfl⟩ hP hD hS (va_recv hK (frP0 hP) (ci := 11) rfl (gx_0 E g a)) rfl hl.1 rfl (Nat.le_of_ble_eq_true rfl) dL_closed_5 ⟨Nat.le_of_ble_eq_true rfl, Nat.le_of_ble_eq_true rfl⟩) hP hS (fun z1 hz1 => by cases hz1) (fun z1 hz1 H locs hP hS => ?_)
  cases hz1
  refine lv_i2l (v := ((z.1 : Int32).toInt64)) hx hb dL_closed_8 rfl ?_
  refine va_last hx hb hK hP (va_D.eqv hD rfl) hS 54 3 (go_out E z.2.1 z.2.2 bo fo) rfl (inB_in (by decide)) dL_closed_9 (fun H locs hP _ hS => ?_)
  have hP := xP_eq (so_out E z.2.1 z.2.2 bo fo (vp_updL fo 0 ((z.1 : Int32).toInt64))) hP
  refine lv_goto (tgt := 17) hx hb dL_closed_10 (by decide) ?_
  refine lv_iconst (v := 0) hx hb dL_closed_17 (by decide) ?_
  exact xw_ret hx hb hr hlocks hP hS (Nat.le_refl _) (Nat.le_refl _) dL_closed_18
set_option maxRecDepth 100000 in
set_option maxHeartbeats 40000000 in
theorem c_L_closed_t3 (l : Launch) (hstk : l.stackTraces = false) (E : xE) (g : xG) (a : xA) (v1 : Int32) (v2 : Int32) (bo : Nat) (fo : Nat → Int64) {z : Nat × xG × xA} (hf : f_X11_closed g a v1 v2 = some (.inl z)) (hz9 : z.1 = 3) : xW l E yL_closed cL_closed 5 [(0, 10, 13, 24)] 7 164 [.ref (E.2.1 0), .int v1, .int v2, .ref bo] (wX E g a ++ oC E bo fo) 1 (wX E z.2.1 z.2.2 ++ oC E bo fo) := by
  refine xW_of (by decide) (Nat.le_of_ble_eq_true rfl) ?_
  intro p e s m below meth c A hx hb hr hml hts hown hlocks htab hA hD hP hK hN hT hst hz hnc hS ls hl
  have hw : ∀ w ∈ BW, w.before _ s = true := fun w h => hts w (List.mem_cons_of_mem _ h)
  have hl : lv_has ls 5 [(0, .ref (E.2.1 0)), (1, .int v1), (2, .int v2), (3, .ref bo)] := hl
  refine lv_aload_n hx hb dL_closed_0 rfl (lv_at hl 3 rfl) ?_
  refine lv_iconst (v := 0) hx hb dL_closed_1 (by decide) ?_
  refine lv_aload_n hx hb dL_closed_2 rfl (lv_at hl 0 rfl) ?_
  refine lv_iload_n hx hb dL_closed_3 rfl (lv_at hl 1 rfl) ?_
  refine lv_iload_n hx hb dL_closed_4 rfl (lv_at hl 2 rfl) ?_
  refine xtciF (xRunTF (wr := oC E bo fo) (As := [.int v1, .int v2]) (rest := [.int 0, .ref bo]) (C := RX11) (k := 2) hx hb hml hown hts hA hK hN hT hst hz (c_X11_closed l hstk E g a v1 v2 hf) bw663 bw1047 bw13 bw1048 bw1049 ⟨rfl, hd_X11_closed⟩ ⟨Nat.le_of_ble_eq_true rfl, Nat.le_of_ble_eq_true rfl⟩ hP hD hS (va_recv hK (frP0 hP) (ci := 11) rfl (gx_0 E g a)) rfl hl.1 rfl (Nat.le_of_ble_eq_true rfl) dL_closed_5 ⟨Nat.le_of_ble_eq_true rfl, Nat.le_of_ble_eq_true rfl⟩) hP hS (fun z1 hz1 ce q9 H locs hP hS hce hcv hcl => ?_) (fun z1 hz1 => by cases hz1)
  cases hz1
  rw [hz9] at hcl
  refine vx_catch (name := "java/lang/IndexOutOfBoundsException") (E := exN 3) hown [] { startPc := 0, endPc := 10, handlerPc := 13, catchType := 24 } [] (by rw [htab]; rfl) (fun z hz => absurd hz List.not_mem_nil) (by decide) (by decide) (hw _ bw1010) (hT.cast 3 (by decide) (by decide)) hce hcv hcl ?_
  refine lv_astore (lv' := [(4, .ref q9), (0, .ref (E.2.1 0)), (1, .int v1), (2, .int v2), (3, .ref bo)]) hx hb dL_closed_13 hl (by decide) rfl (fun ls hl => ?_)
  refine lv_iconst (v := 1) hx hb dL_closed_15 (by decide) ?_
  exact xw_ret hx hb hr hlocks hP hS (Nat.le_refl _) (Nat.le_refl _) dL_closed_16
set_option maxRecDepth 100000 in
set_option maxHeartbeats 40000000 in
theorem c_L_binary_r (l : Launch) (hstk : l.stackTraces = false) (E : xE) (g : xG) (a : xA) (bo : Nat) (fo : Nat → Int64) {z : Int32 × xG × xA} (hf : f_X11_binary g a = some (.inr z)) : xW l E yL_binary cL_binary 3 [(0, 8, 11, 18)] 8 185 [.ref (E.2.1 0), .ref bo] (wX E g a ++ oC E bo fo) 0 (wX E z.2.1 z.2.2 ++ oC E bo (vp_updL fo 0 ((z.1 : Int32).toInt64))) := by
  refine xW_of (by decide) (Nat.le_of_ble_eq_true rfl) ?_
  intro p e s m below meth c A hx hb hr hml hts hown hlocks htab hA hD hP hK hN hT hst hz hnc hS ls hl
  have hw : ∀ w ∈ BW, w.before _ s = true := fun w h => hts w (List.mem_cons_of_mem _ h)
  have hl : lv_has ls 3 [(0, .ref (E.2.1 0)), (1, .ref bo)] := hl
  refine lv_aload_n hx hb dL_binary_0 rfl (lv_at hl 1 rfl) ?_
  refine lv_iconst (v := 0) hx hb dL_binary_1 (by decide) ?_
  refine lv_aload_n hx hb dL_binary_2 rfl (lv_at hl 0 rfl) ?_
  refine xtciF (xRunTF (wr := oC E bo fo) (As := []) (rest := [.int 0, .ref bo]) (C := RX11) (k := 0) hx hb hml hown hts hA hK hN hT hst hz (c_X11_binary l hstk E g a hf) bw671 bw1051 bw13 bw1052 bw1053 ⟨rfl, hd_X11_binary⟩ ⟨Nat.le_of_ble_eq_true rfl, Nat.le_of_ble_eq_true rfl⟩ hP hD hS (va_recv hK (frP0 hP) (ci := 11) rfl (gx_0 E g a)) rfl hl.1 rfl (Nat.le_of_ble_eq_true rfl) dL_binary_3 ⟨Nat.le_of_ble_eq_true rfl, Nat.le_of_ble_eq_true rfl⟩) hP hS (fun z1 hz1 => by cases hz1) (fun z1 hz1 H locs hP hS => ?_)
  cases hz1
  refine lv_i2l (v := ((z.1 : Int32).toInt64)) hx hb dL_binary_6 rfl ?_
  refine va_last hx hb hK hP (va_D.eqv hD rfl) hS 54 3 (go_out E z.2.1 z.2.2 bo fo) rfl (inB_in (by decide)) dL_binary_7 (fun H locs hP _ hS => ?_)
  have hP := xP_eq (so_out E z.2.1 z.2.2 bo fo (vp_updL fo 0 ((z.1 : Int32).toInt64))) hP
  refine lv_goto (tgt := 14) hx hb dL_binary_8 (by decide) ?_
  refine lv_iconst (v := 0) hx hb dL_binary_14 (by decide) ?_
  exact xw_ret hx hb hr hlocks hP hS (Nat.le_refl _) (Nat.le_refl _) dL_binary_15
set_option maxRecDepth 100000 in
set_option maxHeartbeats 40000000 in
theorem c_L_binary_t2 (l : Launch) (hstk : l.stackTraces = false) (E : xE) (g : xG) (a : xA) (bo : Nat) (fo : Nat → Int64) {z : Nat × xG × xA} (hf : f_X11_binary g a = some (.inl z)) (hz9 : z.1 = 2) : xW l E yL_binary cL_binary 3 [(0, 8, 11, 18)] 8 185 [.ref (E.2.1 0), .ref bo] (wX E g a ++ oC E bo fo) 1 (wX E z.2.1 z.2.2 ++ oC E bo fo) := by
  refine xW_of (by decide) (Nat.le_of_ble_eq_true rfl) ?_
  intro p e s m below meth c A hx hb hr hml hts hown hlocks htab hA hD hP hK hN hT hst hz hnc hS ls hl
  have hw : ∀ w ∈ BW, w.before _ s = true := fun w h => hts w (List.mem_cons_of_mem _ h)
  have hl : lv_has ls 3 [(0, .ref (E.2.1 0)), (1, .ref bo)] := hl
  refine lv_aload_n hx hb dL_binary_0 rfl (lv_at hl 1 rfl) ?_
  refine lv_iconst (v := 0) hx hb dL_binary_1 (by decide) ?_
  refine lv_aload_n hx hb dL_binary_2 rfl (lv_at hl 0 rfl) ?_
  refine xtciF (xRunTF (wr := oC E bo fo) (As := []) (rest := [.int 0, .ref bo]) (C := RX11) (k := 0) hx hb hml hown hts hA hK hN hT hst hz (c_X11_binary l hstk E g a hf) bw671 bw1051 bw13 bw1052 bw1053 ⟨rfl, hd_X11_binary⟩ ⟨Nat.le_of_ble_eq_true rfl, Nat.le_of_ble_eq_true rfl⟩ hP hD hS (va_recv hK (frP0 hP) (ci := 11) rfl (gx_0 E g a)) rfl hl.1 rfl (Nat.le_of_ble_eq_true rfl) dL_binary_3 ⟨Nat.le_of_ble_eq_true rfl, Nat.le_of_ble_eq_true rfl⟩) hP hS (fun z1 hz1 ce q9 H locs hP hS hce hcv hcl => ?_) (fun z1 hz1 => by cases hz1)
  cases hz1
  rw [hz9] at hcl
  refine vx_catch (name := "java/lang/IllegalStateException") (E := exN 2) hown [] { startPc := 0, endPc := 8, handlerPc := 11, catchType := 18 } [] (by rw [htab]; rfl) (fun z hz => absurd hz List.not_mem_nil) (by decide) (by decide) (hw _ bw1005) (hT.cast 2 (by decide) (by decide)) hce hcv hcl ?_
  refine lv_astore_n (lv' := [(2, .ref q9), (0, .ref (E.2.1 0)), (1, .ref bo)]) hx hb dL_binary_11 rfl hl (by decide) rfl (fun ls hl => ?_)
  refine lv_iconst (v := 1) hx hb dL_binary_12 (by decide) ?_
  exact xw_ret hx hb hr hlocks hP hS (Nat.le_refl _) (Nat.le_refl _) dL_binary_13
set_option maxRecDepth 100000 in
set_option maxHeartbeats 40000000 in
theorem c_L_kept_r (l : Launch) (hstk : l.stackTraces = false) (E : xE) (g : xG) (a : xA) (v1 : Int32) (bo : Nat) (fo : Nat → Int64) {z : Int32 × xG × xA} (hf : f_X11_kept g a v1 = some (.inr z)) : xW l E yL_kept cL_kept 4 [(0, 9, 12, 13)] 7 163 [.ref (E.2.1 0), .int v1, .ref bo] (wX E g a ++ oC E bo fo) 0 (wX E z.2.1 z.2.2 ++ oC E bo (vp_updL fo 0 ((z.1 : Int32).toInt64))) := by
  refine xW_of (by decide) (Nat.le_of_ble_eq_true rfl) ?_
  intro p e s m below meth c A hx hb hr hml hts hown hlocks htab hA hD hP hK hN hT hst hz hnc hS ls hl
  have hw : ∀ w ∈ BW, w.before _ s = true := fun w h => hts w (List.mem_cons_of_mem _ h)
  have hl : lv_has ls 4 [(0, .ref (E.2.1 0)), (1, .int v1), (2, .ref bo)] := hl
  refine lv_aload_n hx hb dL_kept_0 rfl (lv_at hl 2 rfl) ?_
  refine lv_iconst (v := 0) hx hb dL_kept_1 (by decide) ?_
  refine lv_aload_n hx hb dL_kept_2 rfl (lv_at hl 0 rfl) ?_
  refine lv_iload_n hx hb dL_kept_3 rfl (lv_at hl 1 rfl) ?_
  refine xtciF (xRunTF (wr := oC E bo fo) (As := [.int v1]) (rest := [.int 0, .ref bo]) (C := RX11) (k := 1) hx hb hml hown hts hA hK hN hT hst hz (c_X11_kept l hstk E g a v1 hf) bw675 bw1055 bw13 bw1056 bw1057 ⟨rfl, hd_X11_kept⟩ ⟨Nat.le_of_ble_eq_true rfl, Nat.le_of_ble_eq_true rfl⟩ hP hD hS (va_recv hK (frP0 hP) (ci := 11) rfl (gx_0 E g a)) rfl hl.1 rfl (Nat.le_of_ble_eq_true rfl) dL_kept_4 ⟨Nat.le_of_ble_eq_true rfl, Nat.le_of_ble_eq_true rfl⟩) hP hS (fun z1 hz1 => by cases hz1) (fun z1 hz1 H locs hP hS => ?_)
  cases hz1
  refine lv_i2l (v := ((z.1 : Int32).toInt64)) hx hb dL_kept_7 rfl ?_
  refine va_last hx hb hK hP (va_D.eqv hD rfl) hS 54 3 (go_out E z.2.1 z.2.2 bo fo) rfl (inB_in (by decide)) dL_kept_8 (fun H locs hP _ hS => ?_)
  have hP := xP_eq (so_out E z.2.1 z.2.2 bo fo (vp_updL fo 0 ((z.1 : Int32).toInt64))) hP
  refine lv_goto (tgt := 15) hx hb dL_kept_9 (by decide) ?_
  refine lv_iconst (v := 0) hx hb dL_kept_15 (by decide) ?_
  exact xw_ret hx hb hr hlocks hP hS (Nat.le_refl _) (Nat.le_refl _) dL_kept_16
set_option maxRecDepth 100000 in
set_option maxHeartbeats 40000000 in
theorem c_L_kept_t1 (l : Launch) (hstk : l.stackTraces = false) (E : xE) (g : xG) (a : xA) (v1 : Int32) (bo : Nat) (fo : Nat → Int64) {z : Nat × xG × xA} (hf : f_X11_kept g a v1 = some (.inl z)) (hz9 : z.1 = 1) : xW l E yL_kept cL_kept 4 [(0, 9, 12, 13)] 7 163 [.ref (E.2.1 0), .int v1, .ref bo] (wX E g a ++ oC E bo fo) 1 (wX E z.2.1 z.2.2 ++ oC E bo fo) := by
  refine xW_of (by decide) (Nat.le_of_ble_eq_true rfl) ?_
  intro p e s m below meth c A hx hb hr hml hts hown hlocks htab hA hD hP hK hN hT hst hz hnc hS ls hl
  have hw : ∀ w ∈ BW, w.before _ s = true := fun w h => hts w (List.mem_cons_of_mem _ h)
  have hl : lv_has ls 4 [(0, .ref (E.2.1 0)), (1, .int v1), (2, .ref bo)] := hl
  refine lv_aload_n hx hb dL_kept_0 rfl (lv_at hl 2 rfl) ?_
  refine lv_iconst (v := 0) hx hb dL_kept_1 (by decide) ?_
  refine lv_aload_n hx hb dL_kept_2 rfl (lv_at hl 0 rfl) ?_
  refine lv_iload_n hx hb dL_kept_3 rfl (lv_at hl 1 rfl) ?_
  refine xtciF (xRunTF (wr := oC E bo fo) (As := [.int v1]) (rest := [.int 0, .ref bo]) (C := RX11) (k := 1) hx hb hml hown hts hA hK hN hT hst hz (c_X11_kept l hstk E g a v1 hf) bw675 bw1055 bw13 bw1056 bw1057 ⟨rfl, hd_X11_kept⟩ ⟨Nat.le_of_ble_eq_true rfl, Nat.le_of_ble_eq_true rfl⟩ hP hD hS (va_recv hK (frP0 hP) (ci := 11) rfl (gx_0 E g a)) rfl hl.1 rfl (Nat.le_of_ble_eq_true rfl) dL_kept_4 ⟨Nat.le_of_ble_eq_true rfl, Nat.le_of_ble_eq_true rfl⟩) hP hS (fun z1 hz1 ce q9 H locs hP hS hce hcv hcl => ?_) (fun z1 hz1 => by cases hz1)
  cases hz1
  rw [hz9] at hcl
  refine vx_catch (name := "java/lang/IllegalArgumentException") (E := exN 1) hown [] { startPc := 0, endPc := 9, handlerPc := 12, catchType := 13 } [] (by rw [htab]; rfl) (fun z hz => absurd hz List.not_mem_nil) (by decide) (by decide) (hw _ bw1000) (hT.cast 1 (by decide) (by decide)) hce hcv hcl ?_
  refine lv_astore_n (lv' := [(3, .ref q9), (0, .ref (E.2.1 0)), (1, .int v1), (2, .ref bo)]) hx hb dL_kept_12 rfl hl (by decide) rfl (fun ls hl => ?_)
  refine lv_iconst (v := 1) hx hb dL_kept_13 (by decide) ?_
  exact xw_ret hx hb hr hlocks hP hS (Nat.le_refl _) (Nat.le_refl _) dL_kept_14
set_option maxRecDepth 100000 in
set_option maxHeartbeats 40000000 in
theorem c_L_first_r (l : Launch) (hstk : l.stackTraces = false) (E : xE) (g : xG) (a : xA) (v1 : Int32) (bo : Nat) (fo : Nat → Int64) {z : Int64 × xG × xA} (hf : f_X11_first g a v1 = some (.inr z)) : xW l E yL_first cL_first 4 [(0, 8, 11, 13)] 38 873 [.ref (E.2.1 0), .int v1, .ref bo] (wX E g a ++ oC E bo fo) 0 (wX E z.2.1 z.2.2 ++ oC E bo (vp_updL fo 0 z.1)) := by
  refine xW_of (by decide) (Nat.le_of_ble_eq_true rfl) ?_
  intro p e s m below meth c A hx hb hr hml hts hown hlocks htab hA hD hP hK hN hT hst hz hnc hS ls hl
  have hw : ∀ w ∈ BW, w.before _ s = true := fun w h => hts w (List.mem_cons_of_mem _ h)
  have hl : lv_has ls 4 [(0, .ref (E.2.1 0)), (1, .int v1), (2, .ref bo)] := hl
  refine lv_aload_n hx hb dL_first_0 rfl (lv_at hl 2 rfl) ?_
  refine lv_iconst (v := 0) hx hb dL_first_1 (by decide) ?_
  refine lv_aload_n hx hb dL_first_2 rfl (lv_at hl 0 rfl) ?_
  refine lv_iload_n hx hb dL_first_3 rfl (lv_at hl 1 rfl) ?_
  refine xtclF (xRunTF (wr := oC E bo fo) (As := [.int v1]) (rest := [.int 0, .ref bo]) (C := RX11) (k := 1) hx hb hml hown hts hA hK hN hT hst hz (c_X11_first l hstk E g a v1 hf) bw688 bw1059 bw13 bw1060 bw1061 ⟨rfl, hd_X11_first⟩ ⟨Nat.le_of_ble_eq_true rfl, Nat.le_of_ble_eq_true rfl⟩ hP hD hS (va_recv hK (frP0 hP) (ci := 11) rfl (gx_0 E g a)) rfl hl.1 rfl (Nat.le_of_ble_eq_true rfl) dL_first_4 ⟨Nat.le_of_ble_eq_true rfl, Nat.le_of_ble_eq_true rfl⟩) hP hS (fun z1 hz1 => by cases hz1) (fun z1 hz1 H locs hP hS => ?_)
  cases hz1
  refine va_last hx hb hK hP (va_D.eqv hD rfl) hS 54 3 (go_out E z.2.1 z.2.2 bo fo) rfl (inB_in (by decide)) dL_first_7 (fun H locs hP _ hS => ?_)
  have hP := xP_eq (so_out E z.2.1 z.2.2 bo fo (vp_updL fo 0 z.1)) hP
  refine lv_goto (tgt := 14) hx hb dL_first_8 (by decide) ?_
  refine lv_iconst (v := 0) hx hb dL_first_14 (by decide) ?_
  exact xw_ret hx hb hr hlocks hP hS (Nat.le_refl _) (Nat.le_refl _) dL_first_15
set_option maxRecDepth 100000 in
set_option maxHeartbeats 40000000 in
theorem c_L_first_t1 (l : Launch) (hstk : l.stackTraces = false) (E : xE) (g : xG) (a : xA) (v1 : Int32) (bo : Nat) (fo : Nat → Int64) {z : Nat × xG × xA} (hf : f_X11_first g a v1 = some (.inl z)) (hz9 : z.1 = 1) : xW l E yL_first cL_first 4 [(0, 8, 11, 13)] 38 873 [.ref (E.2.1 0), .int v1, .ref bo] (wX E g a ++ oC E bo fo) 1 (wX E z.2.1 z.2.2 ++ oC E bo fo) := by
  refine xW_of (by decide) (Nat.le_of_ble_eq_true rfl) ?_
  intro p e s m below meth c A hx hb hr hml hts hown hlocks htab hA hD hP hK hN hT hst hz hnc hS ls hl
  have hw : ∀ w ∈ BW, w.before _ s = true := fun w h => hts w (List.mem_cons_of_mem _ h)
  have hl : lv_has ls 4 [(0, .ref (E.2.1 0)), (1, .int v1), (2, .ref bo)] := hl
  refine lv_aload_n hx hb dL_first_0 rfl (lv_at hl 2 rfl) ?_
  refine lv_iconst (v := 0) hx hb dL_first_1 (by decide) ?_
  refine lv_aload_n hx hb dL_first_2 rfl (lv_at hl 0 rfl) ?_
  refine lv_iload_n hx hb dL_first_3 rfl (lv_at hl 1 rfl) ?_
  refine xtclF (xRunTF (wr := oC E bo fo) (As := [.int v1]) (rest := [.int 0, .ref bo]) (C := RX11) (k := 1) hx hb hml hown hts hA hK hN hT hst hz (c_X11_first l hstk E g a v1 hf) bw688 bw1059 bw13 bw1060 bw1061 ⟨rfl, hd_X11_first⟩ ⟨Nat.le_of_ble_eq_true rfl, Nat.le_of_ble_eq_true rfl⟩ hP hD hS (va_recv hK (frP0 hP) (ci := 11) rfl (gx_0 E g a)) rfl hl.1 rfl (Nat.le_of_ble_eq_true rfl) dL_first_4 ⟨Nat.le_of_ble_eq_true rfl, Nat.le_of_ble_eq_true rfl⟩) hP hS (fun z1 hz1 ce q9 H locs hP hS hce hcv hcl => ?_) (fun z1 hz1 => by cases hz1)
  cases hz1
  rw [hz9] at hcl
  refine vx_catch (name := "java/lang/IllegalArgumentException") (E := exN 1) hown [] { startPc := 0, endPc := 8, handlerPc := 11, catchType := 13 } [] (by rw [htab]; rfl) (fun z hz => absurd hz List.not_mem_nil) (by decide) (by decide) (hw _ bw1000) (hT.cast 1 (by decide) (by decide)) hce hcv hcl ?_
  refine lv_astore_n (lv' := [(3, .ref q9), (0, .ref (E.2.1 0)), (1, .int v1), (2, .ref bo)]) hx hb dL_first_11 rfl hl (by decide) rfl (fun ls hl => ?_)
  refine lv_iconst (v := 1) hx hb dL_first_12 (by decide) ?_
  exact xw_ret hx hb hr hlocks hP hS (Nat.le_refl _) (Nat.le_refl _) dL_first_13
set_option maxRecDepth 100000 in
set_option maxHeartbeats 40000000 in
theorem c_L_around_r (l : Launch) (hstk : l.stackTraces = false) (E : xE) (g : xG) (a : xA) (v1 : Int32) (bo : Nat) (fo : Nat → Int64) {z : Int32 × xG × xA} (hf : f_X11_around g a v1 = some (.inr z)) : xW l E yL_around cL_around 4 [(0, 9, 12, 24), (0, 9, 15, 18)] 38 876 [.ref (E.2.1 0), .int v1, .ref bo] (wX E g a ++ oC E bo fo) 0 (wX E z.2.1 z.2.2 ++ oC E bo (vp_updL fo 0 ((z.1 : Int32).toInt64))) := by
  refine xW_of (by decide) (Nat.le_of_ble_eq_true rfl) ?_
  intro p e s m below meth c A hx hb hr hml hts hown hlocks htab hA hD hP hK hN hT hst hz hnc hS ls hl
  have hw : ∀ w ∈ BW, w.before _ s = true := fun w h => hts w (List.mem_cons_of_mem _ h)
  have hl : lv_has ls 4 [(0, .ref (E.2.1 0)), (1, .int v1), (2, .ref bo)] := hl
  refine lv_aload_n hx hb dL_around_0 rfl (lv_at hl 2 rfl) ?_
  refine lv_iconst (v := 0) hx hb dL_around_1 (by decide) ?_
  refine lv_aload_n hx hb dL_around_2 rfl (lv_at hl 0 rfl) ?_
  refine lv_iload_n hx hb dL_around_3 rfl (lv_at hl 1 rfl) ?_
  refine xtciF (xRunTF (wr := oC E bo fo) (As := [.int v1]) (rest := [.int 0, .ref bo]) (C := RX11) (k := 1) hx hb hml hown hts hA hK hN hT hst hz (c_X11_around l hstk E g a v1 hf) bw700 bw1063 bw13 bw1064 bw1065 ⟨rfl, hd_X11_around⟩ ⟨Nat.le_of_ble_eq_true rfl, Nat.le_of_ble_eq_true rfl⟩ hP hD hS (va_recv hK (frP0 hP) (ci := 11) rfl (gx_0 E g a)) rfl hl.1 rfl (Nat.le_of_ble_eq_true rfl) dL_around_4 ⟨Nat.le_of_ble_eq_true rfl, Nat.le_of_ble_eq_true rfl⟩) hP hS (fun z1 hz1 => by cases hz1) (fun z1 hz1 H locs hP hS => ?_)
  cases hz1
  refine lv_i2l (v := ((z.1 : Int32).toInt64)) hx hb dL_around_7 rfl ?_
  refine va_last hx hb hK hP (va_D.eqv hD rfl) hS 54 3 (go_out E z.2.1 z.2.2 bo fo) rfl (inB_in (by decide)) dL_around_8 (fun H locs hP _ hS => ?_)
  have hP := xP_eq (so_out E z.2.1 z.2.2 bo fo (vp_updL fo 0 ((z.1 : Int32).toInt64))) hP
  refine lv_goto (tgt := 18) hx hb dL_around_9 (by decide) ?_
  refine lv_iconst (v := 0) hx hb dL_around_18 (by decide) ?_
  exact xw_ret hx hb hr hlocks hP hS (Nat.le_refl _) (Nat.le_refl _) dL_around_19
set_option maxRecDepth 100000 in
set_option maxHeartbeats 40000000 in
theorem c_L_around_t3 (l : Launch) (hstk : l.stackTraces = false) (E : xE) (g : xG) (a : xA) (v1 : Int32) (bo : Nat) (fo : Nat → Int64) {z : Nat × xG × xA} (hf : f_X11_around g a v1 = some (.inl z)) (hz9 : z.1 = 3) : xW l E yL_around cL_around 4 [(0, 9, 12, 24), (0, 9, 15, 18)] 38 876 [.ref (E.2.1 0), .int v1, .ref bo] (wX E g a ++ oC E bo fo) 1 (wX E z.2.1 z.2.2 ++ oC E bo fo) := by
  refine xW_of (by decide) (Nat.le_of_ble_eq_true rfl) ?_
  intro p e s m below meth c A hx hb hr hml hts hown hlocks htab hA hD hP hK hN hT hst hz hnc hS ls hl
  have hw : ∀ w ∈ BW, w.before _ s = true := fun w h => hts w (List.mem_cons_of_mem _ h)
  have hl : lv_has ls 4 [(0, .ref (E.2.1 0)), (1, .int v1), (2, .ref bo)] := hl
  refine lv_aload_n hx hb dL_around_0 rfl (lv_at hl 2 rfl) ?_
  refine lv_iconst (v := 0) hx hb dL_around_1 (by decide) ?_
  refine lv_aload_n hx hb dL_around_2 rfl (lv_at hl 0 rfl) ?_
  refine lv_iload_n hx hb dL_around_3 rfl (lv_at hl 1 rfl) ?_
  refine xtciF (xRunTF (wr := oC E bo fo) (As := [.int v1]) (rest := [.int 0, .ref bo]) (C := RX11) (k := 1) hx hb hml hown hts hA hK hN hT hst hz (c_X11_around l hstk E g a v1 hf) bw700 bw1063 bw13 bw1064 bw1065 ⟨rfl, hd_X11_around⟩ ⟨Nat.le_of_ble_eq_true rfl, Nat.le_of_ble_eq_true rfl⟩ hP hD hS (va_recv hK (frP0 hP) (ci := 11) rfl (gx_0 E g a)) rfl hl.1 rfl (Nat.le_of_ble_eq_true rfl) dL_around_4 ⟨Nat.le_of_ble_eq_true rfl, Nat.le_of_ble_eq_true rfl⟩) hP hS (fun z1 hz1 ce q9 H locs hP hS hce hcv hcl => ?_) (fun z1 hz1 => by cases hz1)
  cases hz1
  rw [hz9] at hcl
  refine vx_catch (name := "java/lang/IndexOutOfBoundsException") (E := exN 3) hown [] { startPc := 0, endPc := 9, handlerPc := 12, catchType := 24 } [{ startPc := 0, endPc := 9, handlerPc := 15, catchType := 18 }] (by rw [htab]; rfl) (fun z hz => absurd hz List.not_mem_nil) (by decide) (by decide) (hw _ bw1010) (hT.cast 3 (by decide) (by decide)) hce hcv hcl ?_
  refine lv_astore_n (lv' := [(3, .ref q9), (0, .ref (E.2.1 0)), (1, .int v1), (2, .ref bo)]) hx hb dL_around_12 rfl hl (by decide) rfl (fun ls hl => ?_)
  refine lv_iconst (v := 1) hx hb dL_around_13 (by decide) ?_
  exact xw_ret hx hb hr hlocks hP hS (Nat.le_refl _) (Nat.le_refl _) dL_around_14
set_option maxRecDepth 100000 in
set_option maxHeartbeats 40000000 in
theorem c_L_around_t2 (l : Launch) (hstk : l.stackTraces = false) (E : xE) (g : xG) (a : xA) (v1 : Int32) (bo : Nat) (fo : Nat → Int64) {z : Nat × xG × xA} (hf : f_X11_around g a v1 = some (.inl z)) (hz9 : z.1 = 2) : xW l E yL_around cL_around 4 [(0, 9, 12, 24), (0, 9, 15, 18)] 38 876 [.ref (E.2.1 0), .int v1, .ref bo] (wX E g a ++ oC E bo fo) 2 (wX E z.2.1 z.2.2 ++ oC E bo fo) := by
  refine xW_of (by decide) (Nat.le_of_ble_eq_true rfl) ?_
  intro p e s m below meth c A hx hb hr hml hts hown hlocks htab hA hD hP hK hN hT hst hz hnc hS ls hl
  have hw : ∀ w ∈ BW, w.before _ s = true := fun w h => hts w (List.mem_cons_of_mem _ h)
  have hl : lv_has ls 4 [(0, .ref (E.2.1 0)), (1, .int v1), (2, .ref bo)] := hl
  refine lv_aload_n hx hb dL_around_0 rfl (lv_at hl 2 rfl) ?_
  refine lv_iconst (v := 0) hx hb dL_around_1 (by decide) ?_
  refine lv_aload_n hx hb dL_around_2 rfl (lv_at hl 0 rfl) ?_
  refine lv_iload_n hx hb dL_around_3 rfl (lv_at hl 1 rfl) ?_
  refine xtciF (xRunTF (wr := oC E bo fo) (As := [.int v1]) (rest := [.int 0, .ref bo]) (C := RX11) (k := 1) hx hb hml hown hts hA hK hN hT hst hz (c_X11_around l hstk E g a v1 hf) bw700 bw1063 bw13 bw1064 bw1065 ⟨rfl, hd_X11_around⟩ ⟨Nat.le_of_ble_eq_true rfl, Nat.le_of_ble_eq_true rfl⟩ hP hD hS (va_recv hK (frP0 hP) (ci := 11) rfl (gx_0 E g a)) rfl hl.1 rfl (Nat.le_of_ble_eq_true rfl) dL_around_4 ⟨Nat.le_of_ble_eq_true rfl, Nat.le_of_ble_eq_true rfl⟩) hP hS (fun z1 hz1 ce q9 H locs hP hS hce hcv hcl => ?_) (fun z1 hz1 => by cases hz1)
  cases hz1
  rw [hz9] at hcl
  refine vx_catch (name := "java/lang/IllegalStateException") (E := exN 2) hown [{ startPc := 0, endPc := 9, handlerPc := 12, catchType := 24 }] { startPc := 0, endPc := 9, handlerPc := 15, catchType := 18 } [] (by rw [htab]; rfl) (fun z hz => by
      simp only [List.mem_cons, List.not_mem_nil, or_false] at hz
      rcases hz with rfl
      · exact Or.inr ⟨by decide, _, hw _ bw1010, hnc 2 3 (by decide) (by decide) (by decide) (by decide) (by decide)⟩) (by decide) (by decide) (hw _ bw1005) (hT.cast 2 (by decide) (by decide)) hce hcv hcl ?_
  refine lv_astore_n (lv' := [(3, .ref q9), (0, .ref (E.2.1 0)), (1, .int v1), (2, .ref bo)]) hx hb dL_around_15 rfl hl (by decide) rfl (fun ls hl => ?_)
  refine lv_iconst (v := 2) hx hb dL_around_16 (by decide) ?_
  exact xw_ret hx hb hr hlocks hP hS (Nat.le_refl _) (Nat.le_refl _) dL_around_17
set_option maxRecDepth 100000 in
set_option maxHeartbeats 40000000 in
theorem c_L_type_r (l : Launch) (hstk : l.stackTraces = false) (E : xE) (g : xG) (a : xA) (v1 : Int64) (v3 : Int32) (bo : Nat) (fo : Nat → Int64) {z : Int32 × xG × xA} (hf : f_X11_type g a v1 v3 = some (.inr z)) : xW l E yL_type cL_type 6 [(0, 11, 14, 13), (0, 11, 18, 18)] 7 114 [.ref (E.2.1 0), .long v1, .int v3, .ref bo] (wX E g a ++ oC E bo fo) 0 (wX E z.2.1 z.2.2 ++ oC E bo (vp_updL fo 0 ((z.1 : Int32).toInt64))) := by
  refine xW_of (by decide) (Nat.le_of_ble_eq_true rfl) ?_
  intro p e s m below meth c A hx hb hr hml hts hown hlocks htab hA hD hP hK hN hT hst hz hnc hS ls hl
  have hw : ∀ w ∈ BW, w.before _ s = true := fun w h => hts w (List.mem_cons_of_mem _ h)
  have hl : lv_has ls 6 [(0, .ref (E.2.1 0)), (1, .long v1), (3, .int v3), (4, .ref bo)] := hl
  refine lv_aload hx hb dL_type_0 (lv_at hl 3 rfl) ?_
  refine lv_iconst (v := 0) hx hb dL_type_2 (by decide) ?_
  refine lv_aload_n hx hb dL_type_3 rfl (lv_at hl 0 rfl) ?_
  refine lv_lload_n hx hb dL_type_4 rfl (lv_at hl 1 rfl) ?_
  refine lv_iload_n hx hb dL_type_5 rfl (lv_at hl 2 rfl) ?_
  refine xtciF (xRunTF (wr := oC E bo fo) (As := [.long v1, .int v3]) (rest := [.int 0, .ref bo]) (C := RX11) (k := 2) hx hb hml hown hts hA hK hN hT hst hz (c_X11_type l hstk E g a v1 v3 hf) bw703 bw1067 bw13 bw1068 bw1069 ⟨rfl, hd_X11_type⟩ ⟨Nat.le_of_ble_eq_true rfl, Nat.le_of_ble_eq_true rfl⟩ hP hD hS (va_recv hK (frP0 hP) (ci := 11) rfl (gx_0 E g a)) rfl hl.1 rfl (Nat.le_of_ble_eq_true rfl) dL_type_6 ⟨Nat.le_of_ble_eq_true rfl, Nat.le_of_ble_eq_true rfl⟩) hP hS (fun z1 hz1 => by cases hz1) (fun z1 hz1 H locs hP hS => ?_)
  cases hz1
  refine lv_i2l (v := ((z.1 : Int32).toInt64)) hx hb dL_type_9 rfl ?_
  refine va_last hx hb hK hP (va_D.eqv hD rfl) hS 54 3 (go_out E z.2.1 z.2.2 bo fo) rfl (inB_in (by decide)) dL_type_10 (fun H locs hP _ hS => ?_)
  have hP := xP_eq (so_out E z.2.1 z.2.2 bo fo (vp_updL fo 0 ((z.1 : Int32).toInt64))) hP
  refine lv_goto (tgt := 22) hx hb dL_type_11 (by decide) ?_
  refine lv_iconst (v := 0) hx hb dL_type_22 (by decide) ?_
  exact xw_ret hx hb hr hlocks hP hS (Nat.le_refl _) (Nat.le_refl _) dL_type_23
set_option maxRecDepth 100000 in
set_option maxHeartbeats 40000000 in
theorem c_L_type_t1 (l : Launch) (hstk : l.stackTraces = false) (E : xE) (g : xG) (a : xA) (v1 : Int64) (v3 : Int32) (bo : Nat) (fo : Nat → Int64) {z : Nat × xG × xA} (hf : f_X11_type g a v1 v3 = some (.inl z)) (hz9 : z.1 = 1) : xW l E yL_type cL_type 6 [(0, 11, 14, 13), (0, 11, 18, 18)] 7 114 [.ref (E.2.1 0), .long v1, .int v3, .ref bo] (wX E g a ++ oC E bo fo) 1 (wX E z.2.1 z.2.2 ++ oC E bo fo) := by
  refine xW_of (by decide) (Nat.le_of_ble_eq_true rfl) ?_
  intro p e s m below meth c A hx hb hr hml hts hown hlocks htab hA hD hP hK hN hT hst hz hnc hS ls hl
  have hw : ∀ w ∈ BW, w.before _ s = true := fun w h => hts w (List.mem_cons_of_mem _ h)
  have hl : lv_has ls 6 [(0, .ref (E.2.1 0)), (1, .long v1), (3, .int v3), (4, .ref bo)] := hl
  refine lv_aload hx hb dL_type_0 (lv_at hl 3 rfl) ?_
  refine lv_iconst (v := 0) hx hb dL_type_2 (by decide) ?_
  refine lv_aload_n hx hb dL_type_3 rfl (lv_at hl 0 rfl) ?_
  refine lv_lload_n hx hb dL_type_4 rfl (lv_at hl 1 rfl) ?_
  refine lv_iload_n hx hb dL_type_5 rfl (lv_at hl 2 rfl) ?_
  refine xtciF (xRunTF (wr := oC E bo fo) (As := [.long v1, .int v3]) (rest := [.int 0, .ref bo]) (C := RX11) (k := 2) hx hb hml hown hts hA hK hN hT hst hz (c_X11_type l hstk E g a v1 v3 hf) bw703 bw1067 bw13 bw1068 bw1069 ⟨rfl, hd_X11_type⟩ ⟨Nat.le_of_ble_eq_true rfl, Nat.le_of_ble_eq_true rfl⟩ hP hD hS (va_recv hK (frP0 hP) (ci := 11) rfl (gx_0 E g a)) rfl hl.1 rfl (Nat.le_of_ble_eq_true rfl) dL_type_6 ⟨Nat.le_of_ble_eq_true rfl, Nat.le_of_ble_eq_true rfl⟩) hP hS (fun z1 hz1 ce q9 H locs hP hS hce hcv hcl => ?_) (fun z1 hz1 => by cases hz1)
  cases hz1
  rw [hz9] at hcl
  refine vx_catch (name := "java/lang/IllegalArgumentException") (E := exN 1) hown [] { startPc := 0, endPc := 11, handlerPc := 14, catchType := 13 } [{ startPc := 0, endPc := 11, handlerPc := 18, catchType := 18 }] (by rw [htab]; rfl) (fun z hz => absurd hz List.not_mem_nil) (by decide) (by decide) (hw _ bw1000) (hT.cast 1 (by decide) (by decide)) hce hcv hcl ?_
  refine lv_astore (lv' := [(5, .ref q9), (0, .ref (E.2.1 0)), (1, .long v1), (3, .int v3), (4, .ref bo)]) hx hb dL_type_14 hl (by decide) rfl (fun ls hl => ?_)
  refine lv_iconst (v := 1) hx hb dL_type_16 (by decide) ?_
  exact xw_ret hx hb hr hlocks hP hS (Nat.le_refl _) (Nat.le_refl _) dL_type_17
set_option maxRecDepth 100000 in
set_option maxHeartbeats 40000000 in
theorem c_L_type_t2 (l : Launch) (hstk : l.stackTraces = false) (E : xE) (g : xG) (a : xA) (v1 : Int64) (v3 : Int32) (bo : Nat) (fo : Nat → Int64) {z : Nat × xG × xA} (hf : f_X11_type g a v1 v3 = some (.inl z)) (hz9 : z.1 = 2) : xW l E yL_type cL_type 6 [(0, 11, 14, 13), (0, 11, 18, 18)] 7 114 [.ref (E.2.1 0), .long v1, .int v3, .ref bo] (wX E g a ++ oC E bo fo) 2 (wX E z.2.1 z.2.2 ++ oC E bo fo) := by
  refine xW_of (by decide) (Nat.le_of_ble_eq_true rfl) ?_
  intro p e s m below meth c A hx hb hr hml hts hown hlocks htab hA hD hP hK hN hT hst hz hnc hS ls hl
  have hw : ∀ w ∈ BW, w.before _ s = true := fun w h => hts w (List.mem_cons_of_mem _ h)
  have hl : lv_has ls 6 [(0, .ref (E.2.1 0)), (1, .long v1), (3, .int v3), (4, .ref bo)] := hl
  refine lv_aload hx hb dL_type_0 (lv_at hl 3 rfl) ?_
  refine lv_iconst (v := 0) hx hb dL_type_2 (by decide) ?_
  refine lv_aload_n hx hb dL_type_3 rfl (lv_at hl 0 rfl) ?_
  refine lv_lload_n hx hb dL_type_4 rfl (lv_at hl 1 rfl) ?_
  refine lv_iload_n hx hb dL_type_5 rfl (lv_at hl 2 rfl) ?_
  refine xtciF (xRunTF (wr := oC E bo fo) (As := [.long v1, .int v3]) (rest := [.int 0, .ref bo]) (C := RX11) (k := 2) hx hb hml hown hts hA hK hN hT hst hz (c_X11_type l hstk E g a v1 v3 hf) bw703 bw1067 bw13 bw1068 bw1069 ⟨rfl, hd_X11_type⟩ ⟨Nat.le_of_ble_eq_true rfl, Nat.le_of_ble_eq_true rfl⟩ hP hD hS (va_recv hK (frP0 hP) (ci := 11) rfl (gx_0 E g a)) rfl hl.1 rfl (Nat.le_of_ble_eq_true rfl) dL_type_6 ⟨Nat.le_of_ble_eq_true rfl, Nat.le_of_ble_eq_true rfl⟩) hP hS (fun z1 hz1 ce q9 H locs hP hS hce hcv hcl => ?_) (fun z1 hz1 => by cases hz1)
  cases hz1
  rw [hz9] at hcl
  refine vx_catch (name := "java/lang/IllegalStateException") (E := exN 2) hown [{ startPc := 0, endPc := 11, handlerPc := 14, catchType := 13 }] { startPc := 0, endPc := 11, handlerPc := 18, catchType := 18 } [] (by rw [htab]; rfl) (fun z hz => by
      simp only [List.mem_cons, List.not_mem_nil, or_false] at hz
      rcases hz with rfl
      · exact Or.inr ⟨by decide, _, hw _ bw1000, hnc 2 1 (by decide) (by decide) (by decide) (by decide) (by decide)⟩) (by decide) (by decide) (hw _ bw1005) (hT.cast 2 (by decide) (by decide)) hce hcv hcl ?_
  refine lv_astore (lv' := [(5, .ref q9), (0, .ref (E.2.1 0)), (1, .long v1), (3, .int v3), (4, .ref bo)]) hx hb dL_type_18 hl (by decide) rfl (fun ls hl => ?_)
  refine lv_iconst (v := 2) hx hb dL_type_20 (by decide) ?_
  exact xw_ret hx hb hr hlocks hP hS (Nat.le_refl _) (Nat.le_refl _) dL_type_21
set_option maxRecDepth 100000 in
set_option maxHeartbeats 40000000 in
theorem c_L_define_r (l : Launch) (hstk : l.stackTraces = false) (E : xE) (g : xG) (a : xA) (bo : Nat) (fo : Nat → Int64) {z : Int32 × xG × xA} (hf : f_X11_define g a = some (.inr z)) : xW l E yL_define cL_define 3 [(0, 8, 11, 13), (0, 8, 14, 18)] 16 368 [.ref (E.2.1 0), .ref bo] (wX E g a ++ oC E bo fo) 0 (wX E z.2.1 z.2.2 ++ oC E bo (vp_updL fo 0 ((z.1 : Int32).toInt64))) := by
  refine xW_of (by decide) (Nat.le_of_ble_eq_true rfl) ?_
  intro p e s m below meth c A hx hb hr hml hts hown hlocks htab hA hD hP hK hN hT hst hz hnc hS ls hl
  have hw : ∀ w ∈ BW, w.before _ s = true := fun w h => hts w (List.mem_cons_of_mem _ h)
  have hl : lv_has ls 3 [(0, .ref (E.2.1 0)), (1, .ref bo)] := hl
  refine lv_aload_n hx hb dL_define_0 rfl (lv_at hl 1 rfl) ?_
  refine lv_iconst (v := 0) hx hb dL_define_1 (by decide) ?_
  refine lv_aload_n hx hb dL_define_2 rfl (lv_at hl 0 rfl) ?_
  refine xtciF (xRunTF (wr := oC E bo fo) (As := []) (rest := [.int 0, .ref bo]) (C := RX11) (k := 0) hx hb hml hown hts hA hK hN hT hst hz (c_X11_define l hstk E g a hf) bw721 bw1071 bw13 bw1072 bw1073 ⟨rfl, hd_X11_define⟩ ⟨Nat.le_of_ble_eq_true rfl, Nat.le_of_ble_eq_true rfl⟩ hP hD hS (va_recv hK (frP0 hP) (ci := 11) rfl (gx_0 E g a)) rfl hl.1 rfl (Nat.le_of_ble_eq_true rfl) dL_define_3 ⟨Nat.le_of_ble_eq_true rfl, Nat.le_of_ble_eq_true rfl⟩) hP hS (fun z1 hz1 => by cases hz1) (fun z1 hz1 H locs hP hS => ?_)
  cases hz1
  refine lv_i2l (v := ((z.1 : Int32).toInt64)) hx hb dL_define_6 rfl ?_
  refine va_last hx hb hK hP (va_D.eqv hD rfl) hS 54 3 (go_out E z.2.1 z.2.2 bo fo) rfl (inB_in (by decide)) dL_define_7 (fun H locs hP _ hS => ?_)
  have hP := xP_eq (so_out E z.2.1 z.2.2 bo fo (vp_updL fo 0 ((z.1 : Int32).toInt64))) hP
  refine lv_goto (tgt := 17) hx hb dL_define_8 (by decide) ?_
  refine lv_iconst (v := 0) hx hb dL_define_17 (by decide) ?_
  exact xw_ret hx hb hr hlocks hP hS (Nat.le_refl _) (Nat.le_refl _) dL_define_18
set_option maxRecDepth 100000 in
set_option maxHeartbeats 40000000 in
theorem c_L_define_t1 (l : Launch) (hstk : l.stackTraces = false) (E : xE) (g : xG) (a : xA) (bo : Nat) (fo : Nat → Int64) {z : Nat × xG × xA} (hf : f_X11_define g a = some (.inl z)) (hz9 : z.1 = 1) : xW l E yL_define cL_define 3 [(0, 8, 11, 13), (0, 8, 14, 18)] 16 368 [.ref (E.2.1 0), .ref bo] (wX E g a ++ oC E bo fo) 1 (wX E z.2.1 z.2.2 ++ oC E bo fo) := by
  refine xW_of (by decide) (Nat.le_of_ble_eq_true rfl) ?_
  intro p e s m below meth c A hx hb hr hml hts hown hlocks htab hA hD hP hK hN hT hst hz hnc hS ls hl
  have hw : ∀ w ∈ BW, w.before _ s = true := fun w h => hts w (List.mem_cons_of_mem _ h)
  have hl : lv_has ls 3 [(0, .ref (E.2.1 0)), (1, .ref bo)] := hl
  refine lv_aload_n hx hb dL_define_0 rfl (lv_at hl 1 rfl) ?_
  refine lv_iconst (v := 0) hx hb dL_define_1 (by decide) ?_
  refine lv_aload_n hx hb dL_define_2 rfl (lv_at hl 0 rfl) ?_
  refine xtciF (xRunTF (wr := oC E bo fo) (As := []) (rest := [.int 0, .ref bo]) (C := RX11) (k := 0) hx hb hml hown hts hA hK hN hT hst hz (c_X11_define l hstk E g a hf) bw721 bw1071 bw13 bw1072 bw1073 ⟨rfl, hd_X11_define⟩ ⟨Nat.le_of_ble_eq_true rfl, Nat.le_of_ble_eq_true rfl⟩ hP hD hS (va_recv hK (frP0 hP) (ci := 11) rfl (gx_0 E g a)) rfl hl.1 rfl (Nat.le_of_ble_eq_true rfl) dL_define_3 ⟨Nat.le_of_ble_eq_true rfl, Nat.le_of_ble_eq_true rfl⟩) hP hS (fun z1 hz1 ce q9 H locs hP hS hce hcv hcl => ?_) (fun z1 hz1 => by cases hz1)
  cases hz1
  rw [hz9] at hcl
  refine vx_catch (name := "java/lang/IllegalArgumentException") (E := exN 1) hown [] { startPc := 0, endPc := 8, handlerPc := 11, catchType := 13 } [{ startPc := 0, endPc := 8, handlerPc := 14, catchType := 18 }] (by rw [htab]; rfl) (fun z hz => absurd hz List.not_mem_nil) (by decide) (by decide) (hw _ bw1000) (hT.cast 1 (by decide) (by decide)) hce hcv hcl ?_
  refine lv_astore_n (lv' := [(2, .ref q9), (0, .ref (E.2.1 0)), (1, .ref bo)]) hx hb dL_define_11 rfl hl (by decide) rfl (fun ls hl => ?_)
  refine lv_iconst (v := 1) hx hb dL_define_12 (by decide) ?_
  exact xw_ret hx hb hr hlocks hP hS (Nat.le_refl _) (Nat.le_refl _) dL_define_13
set_option maxRecDepth 100000 in
set_option maxHeartbeats 40000000 in
theorem c_L_define_t2 (l : Launch) (hstk : l.stackTraces = false) (E : xE) (g : xG) (a : xA) (bo : Nat) (fo : Nat → Int64) {z : Nat × xG × xA} (hf : f_X11_define g a = some (.inl z)) (hz9 : z.1 = 2) : xW l E yL_define cL_define 3 [(0, 8, 11, 13), (0, 8, 14, 18)] 16 368 [.ref (E.2.1 0), .ref bo] (wX E g a ++ oC E bo fo) 2 (wX E z.2.1 z.2.2 ++ oC E bo fo) := by
  refine xW_of (by decide) (Nat.le_of_ble_eq_true rfl) ?_
  intro p e s m below meth c A hx hb hr hml hts hown hlocks htab hA hD hP hK hN hT hst hz hnc hS ls hl
  have hw : ∀ w ∈ BW, w.before _ s = true := fun w h => hts w (List.mem_cons_of_mem _ h)
  have hl : lv_has ls 3 [(0, .ref (E.2.1 0)), (1, .ref bo)] := hl
  refine lv_aload_n hx hb dL_define_0 rfl (lv_at hl 1 rfl) ?_
  refine lv_iconst (v := 0) hx hb dL_define_1 (by decide) ?_
  refine lv_aload_n hx hb dL_define_2 rfl (lv_at hl 0 rfl) ?_
  refine xtciF (xRunTF (wr := oC E bo fo) (As := []) (rest := [.int 0, .ref bo]) (C := RX11) (k := 0) hx hb hml hown hts hA hK hN hT hst hz (c_X11_define l hstk E g a hf) bw721 bw1071 bw13 bw1072 bw1073 ⟨rfl, hd_X11_define⟩ ⟨Nat.le_of_ble_eq_true rfl, Nat.le_of_ble_eq_true rfl⟩ hP hD hS (va_recv hK (frP0 hP) (ci := 11) rfl (gx_0 E g a)) rfl hl.1 rfl (Nat.le_of_ble_eq_true rfl) dL_define_3 ⟨Nat.le_of_ble_eq_true rfl, Nat.le_of_ble_eq_true rfl⟩) hP hS (fun z1 hz1 ce q9 H locs hP hS hce hcv hcl => ?_) (fun z1 hz1 => by cases hz1)
  cases hz1
  rw [hz9] at hcl
  refine vx_catch (name := "java/lang/IllegalStateException") (E := exN 2) hown [{ startPc := 0, endPc := 8, handlerPc := 11, catchType := 13 }] { startPc := 0, endPc := 8, handlerPc := 14, catchType := 18 } [] (by rw [htab]; rfl) (fun z hz => by
      simp only [List.mem_cons, List.not_mem_nil, or_false] at hz
      rcases hz with rfl
      · exact Or.inr ⟨by decide, _, hw _ bw1000, hnc 2 1 (by decide) (by decide) (by decide) (by decide) (by decide)⟩) (by decide) (by decide) (hw _ bw1005) (hT.cast 2 (by decide) (by decide)) hce hcv hcl ?_
  refine lv_astore_n (lv' := [(2, .ref q9), (0, .ref (E.2.1 0)), (1, .ref bo)]) hx hb dL_define_14 rfl hl (by decide) rfl (fun ls hl => ?_)
  refine lv_iconst (v := 2) hx hb dL_define_15 (by decide) ?_
  exact xw_ret hx hb hr hlocks hP hS (Nat.le_refl _) (Nat.le_refl _) dL_define_16
set_option maxRecDepth 100000 in
set_option maxHeartbeats 40000000 in
theorem c_L_instance_r (l : Launch) (hstk : l.stackTraces = false) (E : xE) (g : xG) (a : xA) (v1 : Int32) (bo : Nat) (fo : Nat → Int64) {z : Int32 × xG} (hf : f_X11_instance g a v1 = some (.inr z)) : xW l E yL_instance cL_instance 4 [(0, 9, 12, 13)] 7 112 [.ref (E.2.1 0), .int v1, .ref bo] (wX E g a ++ oC E bo fo) 0 (wX E z.2 a ++ oC E bo (vp_updL fo 0 ((z.1 : Int32).toInt64))) := by
  refine xW_of (by decide) (Nat.le_of_ble_eq_true rfl) ?_
  intro p e s m below meth c A hx hb hr hml hts hown hlocks htab hA hD hP hK hN hT hst hz hnc hS ls hl
  have hw : ∀ w ∈ BW, w.before _ s = true := fun w h => hts w (List.mem_cons_of_mem _ h)
  have hl : lv_has ls 4 [(0, .ref (E.2.1 0)), (1, .int v1), (2, .ref bo)] := hl
  refine lv_aload_n hx hb dL_instance_0 rfl (lv_at hl 2 rfl) ?_
  refine lv_iconst (v := 0) hx hb dL_instance_1 (by decide) ?_
  refine lv_aload_n hx hb dL_instance_2 rfl (lv_at hl 0 rfl) ?_
  refine lv_iload_n hx hb dL_instance_3 rfl (lv_at hl 1 rfl) ?_
  refine xtciF (xRunTF (wr := oC E bo fo) (As := [.int v1]) (rest := [.int 0, .ref bo]) (C := RX11) (k := 1) hx hb hml hown hts hA hK hN hT hst hz (c_X11_instance l hstk E g a v1 hf) bw722 bw1076 bw13 bw1077 bw1078 ⟨rfl, hd_X11_instance⟩ ⟨Nat.le_of_ble_eq_true rfl, Nat.le_of_ble_eq_true rfl⟩ hP hD hS (va_recv hK (frP0 hP) (ci := 11) rfl (gx_0 E g a)) rfl hl.1 rfl (Nat.le_of_ble_eq_true rfl) dL_instance_4 ⟨Nat.le_of_ble_eq_true rfl, Nat.le_of_ble_eq_true rfl⟩) hP hS (fun z1 hz1 => by cases hz1) (fun z1 hz1 H locs hP hS => ?_)
  cases hz1
  refine lv_i2l (v := ((z.1 : Int32).toInt64)) hx hb dL_instance_7 rfl ?_
  refine va_last hx hb hK hP (va_D.eqv hD rfl) hS 54 3 (go_out E z.2 a bo fo) rfl (inB_in (by decide)) dL_instance_8 (fun H locs hP _ hS => ?_)
  have hP := xP_eq (so_out E z.2 a bo fo (vp_updL fo 0 ((z.1 : Int32).toInt64))) hP
  refine lv_goto (tgt := 15) hx hb dL_instance_9 (by decide) ?_
  refine lv_iconst (v := 0) hx hb dL_instance_15 (by decide) ?_
  exact xw_ret hx hb hr hlocks hP hS (Nat.le_refl _) (Nat.le_refl _) dL_instance_16
set_option maxRecDepth 100000 in
set_option maxHeartbeats 40000000 in
theorem c_L_instance_t1 (l : Launch) (hstk : l.stackTraces = false) (E : xE) (g : xG) (a : xA) (v1 : Int32) (bo : Nat) (fo : Nat → Int64) {z : Nat × xG} (hf : f_X11_instance g a v1 = some (.inl z)) (hz9 : z.1 = 1) : xW l E yL_instance cL_instance 4 [(0, 9, 12, 13)] 7 112 [.ref (E.2.1 0), .int v1, .ref bo] (wX E g a ++ oC E bo fo) 1 (wX E z.2 a ++ oC E bo fo) := by
  refine xW_of (by decide) (Nat.le_of_ble_eq_true rfl) ?_
  intro p e s m below meth c A hx hb hr hml hts hown hlocks htab hA hD hP hK hN hT hst hz hnc hS ls hl
  have hw : ∀ w ∈ BW, w.before _ s = true := fun w h => hts w (List.mem_cons_of_mem _ h)
  have hl : lv_has ls 4 [(0, .ref (E.2.1 0)), (1, .int v1), (2, .ref bo)] := hl
  refine lv_aload_n hx hb dL_instance_0 rfl (lv_at hl 2 rfl) ?_
  refine lv_iconst (v := 0) hx hb dL_instance_1 (by decide) ?_
  refine lv_aload_n hx hb dL_instance_2 rfl (lv_at hl 0 rfl) ?_
  refine lv_iload_n hx hb dL_instance_3 rfl (lv_at hl 1 rfl) ?_
  refine xtciF (xRunTF (wr := oC E bo fo) (As := [.int v1]) (rest := [.int 0, .ref bo]) (C := RX11) (k := 1) hx hb hml hown hts hA hK hN hT hst hz (c_X11_instance l hstk E g a v1 hf) bw722 bw1076 bw13 bw1077 bw1078 ⟨rfl, hd_X11_instance⟩ ⟨Nat.le_of_ble_eq_true rfl, Nat.le_of_ble_eq_true rfl⟩ hP hD hS (va_recv hK (frP0 hP) (ci := 11) rfl (gx_0 E g a)) rfl hl.1 rfl (Nat.le_of_ble_eq_true rfl) dL_instance_4 ⟨Nat.le_of_ble_eq_true rfl, Nat.le_of_ble_eq_true rfl⟩) hP hS (fun z1 hz1 ce q9 H locs hP hS hce hcv hcl => ?_) (fun z1 hz1 => by cases hz1)
  cases hz1
  rw [hz9] at hcl
  refine vx_catch (name := "java/lang/IllegalArgumentException") (E := exN 1) hown [] { startPc := 0, endPc := 9, handlerPc := 12, catchType := 13 } [] (by rw [htab]; rfl) (fun z hz => absurd hz List.not_mem_nil) (by decide) (by decide) (hw _ bw1000) (hT.cast 1 (by decide) (by decide)) hce hcv hcl ?_
  refine lv_astore_n (lv' := [(3, .ref q9), (0, .ref (E.2.1 0)), (1, .int v1), (2, .ref bo)]) hx hb dL_instance_12 rfl hl (by decide) rfl (fun ls hl => ?_)
  refine lv_iconst (v := 1) hx hb dL_instance_13 (by decide) ?_
  exact xw_ret hx hb hr hlocks hP hS (Nat.le_refl _) (Nat.le_refl _) dL_instance_14
set_option maxRecDepth 100000 in
set_option maxHeartbeats 40000000 in
theorem c_L_constrain_r (l : Launch) (hstk : l.stackTraces = false) (E : xE) (g : xG) (a : xA) (v1 : Int32) (v2 : Int32) (v3 : Int32) (v4 : Int32) (bo : Nat) (fo : Nat → Int64) {z : Int32 × xG × xA} (hf : f_X11_constrain g a v1 v2 v3 v4 = some (.inr z)) : xW l E yL_constrain cL_constrain 7 [(0, 14, 17, 24), (0, 14, 21, 13), (0, 14, 25, 18)] 7 115 [.ref (E.2.1 0), .int v1, .int v2, .int v3, .int v4, .ref bo] (wX E g a ++ oC E bo fo) 0 (wX E z.2.1 z.2.2 ++ oC E bo (vp_updL fo 0 ((z.1 : Int32).toInt64))) := by
  refine xW_of (by decide) (Nat.le_of_ble_eq_true rfl) ?_
  intro p e s m below meth c A hx hb hr hml hts hown hlocks htab hA hD hP hK hN hT hst hz hnc hS ls hl
  have hw : ∀ w ∈ BW, w.before _ s = true := fun w h => hts w (List.mem_cons_of_mem _ h)
  have hl : lv_has ls 7 [(0, .ref (E.2.1 0)), (1, .int v1), (2, .int v2), (3, .int v3), (4, .int v4), (5, .ref bo)] := hl
  refine lv_aload hx hb dL_constrain_0 (lv_at hl 5 rfl) ?_
  refine lv_iconst (v := 0) hx hb dL_constrain_2 (by decide) ?_
  refine lv_aload_n hx hb dL_constrain_3 rfl (lv_at hl 0 rfl) ?_
  refine lv_iload_n hx hb dL_constrain_4 rfl (lv_at hl 1 rfl) ?_
  refine lv_iload_n hx hb dL_constrain_5 rfl (lv_at hl 2 rfl) ?_
  refine lv_iload_n hx hb dL_constrain_6 rfl (lv_at hl 3 rfl) ?_
  refine lv_iload hx hb dL_constrain_7 (lv_at hl 4 rfl) ?_
  refine xtciF (xRunTF (wr := oC E bo fo) (As := [.int v1, .int v2, .int v3, .int v4]) (rest := [.int 0, .ref bo]) (C := RX11) (k := 4) hx hb hml hown hts hA hK hN hT hst hz (c_X11_constrain l hstk E g a v1 v2 v3 v4 hf) bw732 bw1079 bw13 bw1080 bw1081 ⟨rfl, hd_X11_constrain⟩ ⟨Nat.le_of_ble_eq_true rfl, Nat.le_of_ble_eq_true rfl⟩ hP hD hS (va_recv hK (frP0 hP) (ci := 11) rfl (gx_0 E g a)) rfl hl.1 rfl (Nat.le_of_ble_eq_true rfl) dL_constrain_9 ⟨Nat.le_of_ble_eq_true rfl, Nat.le_of_ble_eq_true rfl⟩) hP hS (fun z1 hz1 => by cases hz1) (fun z1 hz1 H locs hP hS => ?_)
  cases hz1
  refine lv_i2l (v := ((z.1 : Int32).toInt64)) hx hb dL_constrain_12 rfl ?_
  refine va_last hx hb hK hP (va_D.eqv hD rfl) hS 54 3 (go_out E z.2.1 z.2.2 bo fo) rfl (inB_in (by decide)) dL_constrain_13 (fun H locs hP _ hS => ?_)
  have hP := xP_eq (so_out E z.2.1 z.2.2 bo fo (vp_updL fo 0 ((z.1 : Int32).toInt64))) hP
  refine lv_goto (tgt := 29) hx hb dL_constrain_14 (by decide) ?_
  refine lv_iconst (v := 0) hx hb dL_constrain_29 (by decide) ?_
  exact xw_ret hx hb hr hlocks hP hS (Nat.le_refl _) (Nat.le_refl _) dL_constrain_30
set_option maxRecDepth 100000 in
set_option maxHeartbeats 40000000 in
theorem c_L_constrain_t3 (l : Launch) (hstk : l.stackTraces = false) (E : xE) (g : xG) (a : xA) (v1 : Int32) (v2 : Int32) (v3 : Int32) (v4 : Int32) (bo : Nat) (fo : Nat → Int64) {z : Nat × xG × xA} (hf : f_X11_constrain g a v1 v2 v3 v4 = some (.inl z)) (hz9 : z.1 = 3) : xW l E yL_constrain cL_constrain 7 [(0, 14, 17, 24), (0, 14, 21, 13), (0, 14, 25, 18)] 7 115 [.ref (E.2.1 0), .int v1, .int v2, .int v3, .int v4, .ref bo] (wX E g a ++ oC E bo fo) 1 (wX E z.2.1 z.2.2 ++ oC E bo fo) := by
  refine xW_of (by decide) (Nat.le_of_ble_eq_true rfl) ?_
  intro p e s m below meth c A hx hb hr hml hts hown hlocks htab hA hD hP hK hN hT hst hz hnc hS ls hl
  have hw : ∀ w ∈ BW, w.before _ s = true := fun w h => hts w (List.mem_cons_of_mem _ h)
  have hl : lv_has ls 7 [(0, .ref (E.2.1 0)), (1, .int v1), (2, .int v2), (3, .int v3), (4, .int v4), (5, .ref bo)] := hl
  refine lv_aload hx hb dL_constrain_0 (lv_at hl 5 rfl) ?_
  refine lv_iconst (v := 0) hx hb dL_constrain_2 (by decide) ?_
  refine lv_aload_n hx hb dL_constrain_3 rfl (lv_at hl 0 rfl) ?_
  refine lv_iload_n hx hb dL_constrain_4 rfl (lv_at hl 1 rfl) ?_
  refine lv_iload_n hx hb dL_constrain_5 rfl (lv_at hl 2 rfl) ?_
  refine lv_iload_n hx hb dL_constrain_6 rfl (lv_at hl 3 rfl) ?_
  refine lv_iload hx hb dL_constrain_7 (lv_at hl 4 rfl) ?_
  refine xtciF (xRunTF (wr := oC E bo fo) (As := [.int v1, .int v2, .int v3, .int v4]) (rest := [.int 0, .ref bo]) (C := RX11) (k := 4) hx hb hml hown hts hA hK hN hT hst hz (c_X11_constrain l hstk E g a v1 v2 v3 v4 hf) bw732 bw1079 bw13 bw1080 bw1081 ⟨rfl, hd_X11_constrain⟩ ⟨Nat.le_of_ble_eq_true rfl, Nat.le_of_ble_eq_true rfl⟩ hP hD hS (va_recv hK (frP0 hP) (ci := 11) rfl (gx_0 E g a)) rfl hl.1 rfl (Nat.le_of_ble_eq_true rfl) dL_constrain_9 ⟨Nat.le_of_ble_eq_true rfl, Nat.le_of_ble_eq_true rfl⟩) hP hS (fun z1 hz1 ce q9 H locs hP hS hce hcv hcl => ?_) (fun z1 hz1 => by cases hz1)
  cases hz1
  rw [hz9] at hcl
  refine vx_catch (name := "java/lang/IndexOutOfBoundsException") (E := exN 3) hown [] { startPc := 0, endPc := 14, handlerPc := 17, catchType := 24 } [{ startPc := 0, endPc := 14, handlerPc := 21, catchType := 13 }, { startPc := 0, endPc := 14, handlerPc := 25, catchType := 18 }] (by rw [htab]; rfl) (fun z hz => absurd hz List.not_mem_nil) (by decide) (by decide) (hw _ bw1010) (hT.cast 3 (by decide) (by decide)) hce hcv hcl ?_
  refine lv_astore (lv' := [(6, .ref q9), (0, .ref (E.2.1 0)), (1, .int v1), (2, .int v2), (3, .int v3), (4, .int v4), (5, .ref bo)]) hx hb dL_constrain_17 hl (by decide) rfl (fun ls hl => ?_)
  refine lv_iconst (v := 1) hx hb dL_constrain_19 (by decide) ?_
  exact xw_ret hx hb hr hlocks hP hS (Nat.le_refl _) (Nat.le_refl _) dL_constrain_20
set_option maxRecDepth 100000 in
set_option maxHeartbeats 40000000 in
theorem c_L_constrain_t1 (l : Launch) (hstk : l.stackTraces = false) (E : xE) (g : xG) (a : xA) (v1 : Int32) (v2 : Int32) (v3 : Int32) (v4 : Int32) (bo : Nat) (fo : Nat → Int64) {z : Nat × xG × xA} (hf : f_X11_constrain g a v1 v2 v3 v4 = some (.inl z)) (hz9 : z.1 = 1) : xW l E yL_constrain cL_constrain 7 [(0, 14, 17, 24), (0, 14, 21, 13), (0, 14, 25, 18)] 7 115 [.ref (E.2.1 0), .int v1, .int v2, .int v3, .int v4, .ref bo] (wX E g a ++ oC E bo fo) 2 (wX E z.2.1 z.2.2 ++ oC E bo fo) := by
  refine xW_of (by decide) (Nat.le_of_ble_eq_true rfl) ?_
  intro p e s m below meth c A hx hb hr hml hts hown hlocks htab hA hD hP hK hN hT hst hz hnc hS ls hl
  have hw : ∀ w ∈ BW, w.before _ s = true := fun w h => hts w (List.mem_cons_of_mem _ h)
  have hl : lv_has ls 7 [(0, .ref (E.2.1 0)), (1, .int v1), (2, .int v2), (3, .int v3), (4, .int v4), (5, .ref bo)] := hl
  refine lv_aload hx hb dL_constrain_0 (lv_at hl 5 rfl) ?_
  refine lv_iconst (v := 0) hx hb dL_constrain_2 (by decide) ?_
  refine lv_aload_n hx hb dL_constrain_3 rfl (lv_at hl 0 rfl) ?_
  refine lv_iload_n hx hb dL_constrain_4 rfl (lv_at hl 1 rfl) ?_
  refine lv_iload_n hx hb dL_constrain_5 rfl (lv_at hl 2 rfl) ?_
  refine lv_iload_n hx hb dL_constrain_6 rfl (lv_at hl 3 rfl) ?_
  refine lv_iload hx hb dL_constrain_7 (lv_at hl 4 rfl) ?_
  refine xtciF (xRunTF (wr := oC E bo fo) (As := [.int v1, .int v2, .int v3, .int v4]) (rest := [.int 0, .ref bo]) (C := RX11) (k := 4) hx hb hml hown hts hA hK hN hT hst hz (c_X11_constrain l hstk E g a v1 v2 v3 v4 hf) bw732 bw1079 bw13 bw1080 bw1081 ⟨rfl, hd_X11_constrain⟩ ⟨Nat.le_of_ble_eq_true rfl, Nat.le_of_ble_eq_true rfl⟩ hP hD hS (va_recv hK (frP0 hP) (ci := 11) rfl (gx_0 E g a)) rfl hl.1 rfl (Nat.le_of_ble_eq_true rfl) dL_constrain_9 ⟨Nat.le_of_ble_eq_true rfl, Nat.le_of_ble_eq_true rfl⟩) hP hS (fun z1 hz1 ce q9 H locs hP hS hce hcv hcl => ?_) (fun z1 hz1 => by cases hz1)
  cases hz1
  rw [hz9] at hcl
  refine vx_catch (name := "java/lang/IllegalArgumentException") (E := exN 1) hown [{ startPc := 0, endPc := 14, handlerPc := 17, catchType := 24 }] { startPc := 0, endPc := 14, handlerPc := 21, catchType := 13 } [{ startPc := 0, endPc := 14, handlerPc := 25, catchType := 18 }] (by rw [htab]; rfl) (fun z hz => by
      simp only [List.mem_cons, List.not_mem_nil, or_false] at hz
      rcases hz with rfl
      · exact Or.inr ⟨by decide, _, hw _ bw1010, hnc 1 3 (by decide) (by decide) (by decide) (by decide) (by decide)⟩) (by decide) (by decide) (hw _ bw1000) (hT.cast 1 (by decide) (by decide)) hce hcv hcl ?_
  refine lv_astore (lv' := [(6, .ref q9), (0, .ref (E.2.1 0)), (1, .int v1), (2, .int v2), (3, .int v3), (4, .int v4), (5, .ref bo)]) hx hb dL_constrain_21 hl (by decide) rfl (fun ls hl => ?_)
  refine lv_iconst (v := 2) hx hb dL_constrain_23 (by decide) ?_
  exact xw_ret hx hb hr hlocks hP hS (Nat.le_refl _) (Nat.le_refl _) dL_constrain_24
set_option maxRecDepth 100000 in
set_option maxHeartbeats 40000000 in
theorem c_L_constrain_t2 (l : Launch) (hstk : l.stackTraces = false) (E : xE) (g : xG) (a : xA) (v1 : Int32) (v2 : Int32) (v3 : Int32) (v4 : Int32) (bo : Nat) (fo : Nat → Int64) {z : Nat × xG × xA} (hf : f_X11_constrain g a v1 v2 v3 v4 = some (.inl z)) (hz9 : z.1 = 2) : xW l E yL_constrain cL_constrain 7 [(0, 14, 17, 24), (0, 14, 21, 13), (0, 14, 25, 18)] 7 115 [.ref (E.2.1 0), .int v1, .int v2, .int v3, .int v4, .ref bo] (wX E g a ++ oC E bo fo) 3 (wX E z.2.1 z.2.2 ++ oC E bo fo) := by
  refine xW_of (by decide) (Nat.le_of_ble_eq_true rfl) ?_
  intro p e s m below meth c A hx hb hr hml hts hown hlocks htab hA hD hP hK hN hT hst hz hnc hS ls hl
  have hw : ∀ w ∈ BW, w.before _ s = true := fun w h => hts w (List.mem_cons_of_mem _ h)
  have hl : lv_has ls 7 [(0, .ref (E.2.1 0)), (1, .int v1), (2, .int v2), (3, .int v3), (4, .int v4), (5, .ref bo)] := hl
  refine lv_aload hx hb dL_constrain_0 (lv_at hl 5 rfl) ?_
  refine lv_iconst (v := 0) hx hb dL_constrain_2 (by decide) ?_
  refine lv_aload_n hx hb dL_constrain_3 rfl (lv_at hl 0 rfl) ?_
  refine lv_iload_n hx hb dL_constrain_4 rfl (lv_at hl 1 rfl) ?_
  refine lv_iload_n hx hb dL_constrain_5 rfl (lv_at hl 2 rfl) ?_
  refine lv_iload_n hx hb dL_constrain_6 rfl (lv_at hl 3 rfl) ?_
  refine lv_iload hx hb dL_constrain_7 (lv_at hl 4 rfl) ?_
  refine xtciF (xRunTF (wr := oC E bo fo) (As := [.int v1, .int v2, .int v3, .int v4]) (rest := [.int 0, .ref bo]) (C := RX11) (k := 4) hx hb hml hown hts hA hK hN hT hst hz (c_X11_constrain l hstk E g a v1 v2 v3 v4 hf) bw732 bw1079 bw13 bw1080 bw1081 ⟨rfl, hd_X11_constrain⟩ ⟨Nat.le_of_ble_eq_true rfl, Nat.le_of_ble_eq_true rfl⟩ hP hD hS (va_recv hK (frP0 hP) (ci := 11) rfl (gx_0 E g a)) rfl hl.1 rfl (Nat.le_of_ble_eq_true rfl) dL_constrain_9 ⟨Nat.le_of_ble_eq_true rfl, Nat.le_of_ble_eq_true rfl⟩) hP hS (fun z1 hz1 ce q9 H locs hP hS hce hcv hcl => ?_) (fun z1 hz1 => by cases hz1)
  cases hz1
  rw [hz9] at hcl
  refine vx_catch (name := "java/lang/IllegalStateException") (E := exN 2) hown [{ startPc := 0, endPc := 14, handlerPc := 17, catchType := 24 }, { startPc := 0, endPc := 14, handlerPc := 21, catchType := 13 }] { startPc := 0, endPc := 14, handlerPc := 25, catchType := 18 } [] (by rw [htab]; rfl) (fun z hz => by
      simp only [List.mem_cons, List.not_mem_nil, or_false] at hz
      rcases hz with rfl | rfl
      · exact Or.inr ⟨by decide, _, hw _ bw1010, hnc 2 3 (by decide) (by decide) (by decide) (by decide) (by decide)⟩
      · exact Or.inr ⟨by decide, _, hw _ bw1000, hnc 2 1 (by decide) (by decide) (by decide) (by decide) (by decide)⟩) (by decide) (by decide) (hw _ bw1005) (hT.cast 2 (by decide) (by decide)) hce hcv hcl ?_
  refine lv_astore (lv' := [(6, .ref q9), (0, .ref (E.2.1 0)), (1, .int v1), (2, .int v2), (3, .int v3), (4, .int v4), (5, .ref bo)]) hx hb dL_constrain_25 hl (by decide) rfl (fun ls hl => ?_)
  refine lv_iconst (v := 3) hx hb dL_constrain_27 (by decide) ?_
  exact xw_ret hx hb hr hlocks hP hS (Nat.le_refl _) (Nat.le_refl _) dL_constrain_28
set_option maxRecDepth 100000 in
set_option maxHeartbeats 40000000 in
theorem c_L_left_r (l : Launch) (hstk : l.stackTraces = false) (E : xE) (g : xG) (a : xA) (v1 : Int32) (bo : Nat) (fo : Nat → Int64) {z : Int32 × xA} (hf : f_X11_left g a v1 = some (.inr z)) : xW l E yL_left cL_left 4 [(0, 9, 12, 24)] 8 185 [.ref (E.2.1 0), .int v1, .ref bo] (wX E g a ++ oC E bo fo) 0 (wX E g z.2 ++ oC E bo (vp_updL fo 0 ((z.1 : Int32).toInt64))) := by
  refine xW_of (by decide) (Nat.le_of_ble_eq_true rfl) ?_
  intro p e s m below meth c A hx hb hr hml hts hown hlocks htab hA hD hP hK hN hT hst hz hnc hS ls hl
  have hw : ∀ w ∈ BW, w.before _ s = true := fun w h => hts w (List.mem_cons_of_mem _ h)
  have hl : lv_has ls 4 [(0, .ref (E.2.1 0)), (1, .int v1), (2, .ref bo)] := hl
  refine lv_aload_n hx hb dL_left_0 rfl (lv_at hl 2 rfl) ?_
  refine lv_iconst (v := 0) hx hb dL_left_1 (by decide) ?_
  refine lv_aload_n hx hb dL_left_2 rfl (lv_at hl 0 rfl) ?_
  refine lv_iload_n hx hb dL_left_3 rfl (lv_at hl 1 rfl) ?_
  refine xtciF (xRunTF (wr := oC E bo fo) (As := [.int v1]) (rest := [.int 0, .ref bo]) (C := RX11) (k := 1) hx hb hml hown hts hA hK hN hT hst hz (c_X11_left l hstk E g a v1 hf) bw748 bw1083 bw13 bw1084 bw1085 ⟨rfl, hd_X11_left⟩ ⟨Nat.le_of_ble_eq_true rfl, Nat.le_of_ble_eq_true rfl⟩ hP hD hS (va_recv hK (frP0 hP) (ci := 11) rfl (gx_0 E g a)) rfl hl.1 rfl (Nat.le_of_ble_eq_true rfl) dL_left_4 ⟨Nat.le_of_ble_eq_true rfl, Nat.le_of_ble_eq_true rfl⟩) hP hS (fun z1 hz1 => by cases hz1) (fun z1 hz1 H locs hP hS => ?_)
  cases hz1
  refine lv_i2l (v := ((z.1 : Int32).toInt64)) hx hb dL_left_7 rfl ?_
  refine va_last hx hb hK hP (va_D.eqv hD rfl) hS 54 3 (go_out E g z.2 bo fo) rfl (inB_in (by decide)) dL_left_8 (fun H locs hP _ hS => ?_)
  have hP := xP_eq (so_out E g z.2 bo fo (vp_updL fo 0 ((z.1 : Int32).toInt64))) hP
  refine lv_goto (tgt := 15) hx hb dL_left_9 (by decide) ?_
  refine lv_iconst (v := 0) hx hb dL_left_15 (by decide) ?_
  exact xw_ret hx hb hr hlocks hP hS (Nat.le_refl _) (Nat.le_refl _) dL_left_16
set_option maxRecDepth 100000 in
set_option maxHeartbeats 40000000 in
theorem c_L_left_t3 (l : Launch) (hstk : l.stackTraces = false) (E : xE) (g : xG) (a : xA) (v1 : Int32) (bo : Nat) (fo : Nat → Int64) {z : Nat × xA} (hf : f_X11_left g a v1 = some (.inl z)) (hz9 : z.1 = 3) : xW l E yL_left cL_left 4 [(0, 9, 12, 24)] 8 185 [.ref (E.2.1 0), .int v1, .ref bo] (wX E g a ++ oC E bo fo) 1 (wX E g z.2 ++ oC E bo fo) := by
  refine xW_of (by decide) (Nat.le_of_ble_eq_true rfl) ?_
  intro p e s m below meth c A hx hb hr hml hts hown hlocks htab hA hD hP hK hN hT hst hz hnc hS ls hl
  have hw : ∀ w ∈ BW, w.before _ s = true := fun w h => hts w (List.mem_cons_of_mem _ h)
  have hl : lv_has ls 4 [(0, .ref (E.2.1 0)), (1, .int v1), (2, .ref bo)] := hl
  refine lv_aload_n hx hb dL_left_0 rfl (lv_at hl 2 rfl) ?_
  refine lv_iconst (v := 0) hx hb dL_left_1 (by decide) ?_
  refine lv_aload_n hx hb dL_left_2 rfl (lv_at hl 0 rfl) ?_
  refine lv_iload_n hx hb dL_left_3 rfl (lv_at hl 1 rfl) ?_
  refine xtciF (xRunTF (wr := oC E bo fo) (As := [.int v1]) (rest := [.int 0, .ref bo]) (C := RX11) (k := 1) hx hb hml hown hts hA hK hN hT hst hz (c_X11_left l hstk E g a v1 hf) bw748 bw1083 bw13 bw1084 bw1085 ⟨rfl, hd_X11_left⟩ ⟨Nat.le_of_ble_eq_true rfl, Nat.le_of_ble_eq_true rfl⟩ hP hD hS (va_recv hK (frP0 hP) (ci := 11) rfl (gx_0 E g a)) rfl hl.1 rfl (Nat.le_of_ble_eq_true rfl) dL_left_4 ⟨Nat.le_of_ble_eq_true rfl, Nat.le_of_ble_eq_true rfl⟩) hP hS (fun z1 hz1 ce q9 H locs hP hS hce hcv hcl => ?_) (fun z1 hz1 => by cases hz1)
  cases hz1
  rw [hz9] at hcl
  refine vx_catch (name := "java/lang/IndexOutOfBoundsException") (E := exN 3) hown [] { startPc := 0, endPc := 9, handlerPc := 12, catchType := 24 } [] (by rw [htab]; rfl) (fun z hz => absurd hz List.not_mem_nil) (by decide) (by decide) (hw _ bw1010) (hT.cast 3 (by decide) (by decide)) hce hcv hcl ?_
  refine lv_astore_n (lv' := [(3, .ref q9), (0, .ref (E.2.1 0)), (1, .int v1), (2, .ref bo)]) hx hb dL_left_12 rfl hl (by decide) rfl (fun ls hl => ?_)
  refine lv_iconst (v := 1) hx hb dL_left_13 (by decide) ?_
  exact xw_ret hx hb hr hlocks hP hS (Nat.le_refl _) (Nat.le_refl _) dL_left_14
set_option maxRecDepth 100000 in
set_option maxHeartbeats 40000000 in
theorem c_L_pairs_r (l : Launch) (hstk : l.stackTraces = false) (E : xE) (g : xG) (a : xA) (v1 : Int32) (v2 : Int32) (bo : Nat) (fo : Nat → Int64) {z : Int32 × xA} (hf : f_X11_pairs g a v1 v2 = some (.inr z)) : xW l E yL_pairs cL_pairs 5 [(0, 10, 13, 24), (0, 10, 17, 13)] 7 165 [.ref (E.2.1 0), .int v1, .int v2, .ref bo] (wX E g a ++ oC E bo fo) 0 (wX E g z.2 ++ oC E bo (vp_updL fo 0 ((z.1 : Int32).toInt64))) := by
  refine xW_of (by decide) (Nat.le_of_ble_eq_true rfl) ?_
  intro p e s m below meth c A hx hb hr hml hts hown hlocks htab hA hD hP hK hN hT hst hz hnc hS ls hl
  have hw : ∀ w ∈ BW, w.before _ s = true := fun w h => hts w (List.mem_cons_of_mem _ h)
  have hl : lv_has ls 5 [(0, .ref (E.2.1 0)), (1, .int v1), (2, .int v2), (3, .ref bo)] := hl
  refine lv_aload_n hx hb dL_pairs_0 rfl (lv_at hl 3 rfl) ?_
  refine lv_iconst (v := 0) hx hb dL_pairs_1 (by decide) ?_
  refine lv_aload_n hx hb dL_pairs_2 rfl (lv_at hl 0 rfl) ?_
  refine lv_iload_n hx hb dL_pairs_3 rfl (lv_at hl 1 rfl) ?_
  refine lv_iload_n hx hb dL_pairs_4 rfl (lv_at hl 2 rfl) ?_
  refine xtciF (xRunTF (wr := oC E bo fo) (As := [.int v1, .int v2]) (rest := [.int 0, .ref bo]) (C := RX11) (k := 2) hx hb hml hown hts hA hK hN hT hst hz (c_X11_pairs l hstk E g a v1 v2 hf) bw752 bw1087 bw13 bw1088 bw1089 ⟨rfl, hd_X11_pairs⟩ ⟨Nat.le_of_ble_eq_true rfl, Nat.le_of_ble_eq_true rfl⟩ hP hD hS (va_recv hK (frP0 hP) (ci := 11) rfl (gx_0 E g a)) rfl hl.1 rfl (Nat.le_of_ble_eq_true rfl) dL_pairs_5 ⟨Nat.le_of_ble_eq_true rfl, Nat.le_of_ble_eq_true rfl⟩) hP hS (fun z1 hz1 => by cases hz1) (fun z1 hz1 H locs hP hS => ?_)
  cases hz1
  refine lv_i2l (v := ((z.1 : Int32).toInt64)) hx hb dL_pairs_8 rfl ?_
  refine va_last hx hb hK hP (va_D.eqv hD rfl) hS 54 3 (go_out E g z.2 bo fo) rfl (inB_in (by decide)) dL_pairs_9 (fun H locs hP _ hS => ?_)
  have hP := xP_eq (so_out E g z.2 bo fo (vp_updL fo 0 ((z.1 : Int32).toInt64))) hP
  refine lv_goto (tgt := 21) hx hb dL_pairs_10 (by decide) ?_
  refine lv_iconst (v := 0) hx hb dL_pairs_21 (by decide) ?_
  exact xw_ret hx hb hr hlocks hP hS (Nat.le_refl _) (Nat.le_refl _) dL_pairs_22
set_option maxRecDepth 100000 in
set_option maxHeartbeats 40000000 in
theorem c_L_pairs_t3 (l : Launch) (hstk : l.stackTraces = false) (E : xE) (g : xG) (a : xA) (v1 : Int32) (v2 : Int32) (bo : Nat) (fo : Nat → Int64) {z : Nat × xA} (hf : f_X11_pairs g a v1 v2 = some (.inl z)) (hz9 : z.1 = 3) : xW l E yL_pairs cL_pairs 5 [(0, 10, 13, 24), (0, 10, 17, 13)] 7 165 [.ref (E.2.1 0), .int v1, .int v2, .ref bo] (wX E g a ++ oC E bo fo) 1 (wX E g z.2 ++ oC E bo fo) := by
  refine xW_of (by decide) (Nat.le_of_ble_eq_true rfl) ?_
  intro p e s m below meth c A hx hb hr hml hts hown hlocks htab hA hD hP hK hN hT hst hz hnc hS ls hl
  have hw : ∀ w ∈ BW, w.before _ s = true := fun w h => hts w (List.mem_cons_of_mem _ h)
  have hl : lv_has ls 5 [(0, .ref (E.2.1 0)), (1, .int v1), (2, .int v2), (3, .ref bo)] := hl
  refine lv_aload_n hx hb dL_pairs_0 rfl (lv_at hl 3 rfl) ?_
  refine lv_iconst (v := 0) hx hb dL_pairs_1 (by decide) ?_
  refine lv_aload_n hx hb dL_pairs_2 rfl (lv_at hl 0 rfl) ?_
  refine lv_iload_n hx hb dL_pairs_3 rfl (lv_at hl 1 rfl) ?_
  refine lv_iload_n hx hb dL_pairs_4 rfl (lv_at hl 2 rfl) ?_
  refine xtciF (xRunTF (wr := oC E bo fo) (As := [.int v1, .int v2]) (rest := [.int 0, .ref bo]) (C := RX11) (k := 2) hx hb hml hown hts hA hK hN hT hst hz (c_X11_pairs l hstk E g a v1 v2 hf) bw752 bw1087 bw13 bw1088 bw1089 ⟨rfl, hd_X11_pairs⟩ ⟨Nat.le_of_ble_eq_true rfl, Nat.le_of_ble_eq_true rfl⟩ hP hD hS (va_recv hK (frP0 hP) (ci := 11) rfl (gx_0 E g a)) rfl hl.1 rfl (Nat.le_of_ble_eq_true rfl) dL_pairs_5 ⟨Nat.le_of_ble_eq_true rfl, Nat.le_of_ble_eq_true rfl⟩) hP hS (fun z1 hz1 ce q9 H locs hP hS hce hcv hcl => ?_) (fun z1 hz1 => by cases hz1)
  cases hz1
  rw [hz9] at hcl
  refine vx_catch (name := "java/lang/IndexOutOfBoundsException") (E := exN 3) hown [] { startPc := 0, endPc := 10, handlerPc := 13, catchType := 24 } [{ startPc := 0, endPc := 10, handlerPc := 17, catchType := 13 }] (by rw [htab]; rfl) (fun z hz => absurd hz List.not_mem_nil) (by decide) (by decide) (hw _ bw1010) (hT.cast 3 (by decide) (by decide)) hce hcv hcl ?_
  refine lv_astore (lv' := [(4, .ref q9), (0, .ref (E.2.1 0)), (1, .int v1), (2, .int v2), (3, .ref bo)]) hx hb dL_pairs_13 hl (by decide) rfl (fun ls hl => ?_)
  refine lv_iconst (v := 1) hx hb dL_pairs_15 (by decide) ?_
  exact xw_ret hx hb hr hlocks hP hS (Nat.le_refl _) (Nat.le_refl _) dL_pairs_16
set_option maxRecDepth 100000 in
set_option maxHeartbeats 40000000 in
theorem c_L_pairs_t1 (l : Launch) (hstk : l.stackTraces = false) (E : xE) (g : xG) (a : xA) (v1 : Int32) (v2 : Int32) (bo : Nat) (fo : Nat → Int64) {z : Nat × xA} (hf : f_X11_pairs g a v1 v2 = some (.inl z)) (hz9 : z.1 = 1) : xW l E yL_pairs cL_pairs 5 [(0, 10, 13, 24), (0, 10, 17, 13)] 7 165 [.ref (E.2.1 0), .int v1, .int v2, .ref bo] (wX E g a ++ oC E bo fo) 2 (wX E g z.2 ++ oC E bo fo) := by
  refine xW_of (by decide) (Nat.le_of_ble_eq_true rfl) ?_
  intro p e s m below meth c A hx hb hr hml hts hown hlocks htab hA hD hP hK hN hT hst hz hnc hS ls hl
  have hw : ∀ w ∈ BW, w.before _ s = true := fun w h => hts w (List.mem_cons_of_mem _ h)
  have hl : lv_has ls 5 [(0, .ref (E.2.1 0)), (1, .int v1), (2, .int v2), (3, .ref bo)] := hl
  refine lv_aload_n hx hb dL_pairs_0 rfl (lv_at hl 3 rfl) ?_
  refine lv_iconst (v := 0) hx hb dL_pairs_1 (by decide) ?_
  refine lv_aload_n hx hb dL_pairs_2 rfl (lv_at hl 0 rfl) ?_
  refine lv_iload_n hx hb dL_pairs_3 rfl (lv_at hl 1 rfl) ?_
  refine lv_iload_n hx hb dL_pairs_4 rfl (lv_at hl 2 rfl) ?_
  refine xtciF (xRunTF (wr := oC E bo fo) (As := [.int v1, .int v2]) (rest := [.int 0, .ref bo]) (C := RX11) (k := 2) hx hb hml hown hts hA hK hN hT hst hz (c_X11_pairs l hstk E g a v1 v2 hf) bw752 bw1087 bw13 bw1088 bw1089 ⟨rfl, hd_X11_pairs⟩ ⟨Nat.le_of_ble_eq_true rfl, Nat.le_of_ble_eq_true rfl⟩ hP hD hS (va_recv hK (frP0 hP) (ci := 11) rfl (gx_0 E g a)) rfl hl.1 rfl (Nat.le_of_ble_eq_true rfl) dL_pairs_5 ⟨Nat.le_of_ble_eq_true rfl, Nat.le_of_ble_eq_true rfl⟩) hP hS (fun z1 hz1 ce q9 H locs hP hS hce hcv hcl => ?_) (fun z1 hz1 => by cases hz1)
  cases hz1
  rw [hz9] at hcl
  refine vx_catch (name := "java/lang/IllegalArgumentException") (E := exN 1) hown [{ startPc := 0, endPc := 10, handlerPc := 13, catchType := 24 }] { startPc := 0, endPc := 10, handlerPc := 17, catchType := 13 } [] (by rw [htab]; rfl) (fun z hz => by
      simp only [List.mem_cons, List.not_mem_nil, or_false] at hz
      rcases hz with rfl
      · exact Or.inr ⟨by decide, _, hw _ bw1010, hnc 1 3 (by decide) (by decide) (by decide) (by decide) (by decide)⟩) (by decide) (by decide) (hw _ bw1000) (hT.cast 1 (by decide) (by decide)) hce hcv hcl ?_
  refine lv_astore (lv' := [(4, .ref q9), (0, .ref (E.2.1 0)), (1, .int v1), (2, .int v2), (3, .ref bo)]) hx hb dL_pairs_17 hl (by decide) rfl (fun ls hl => ?_)
  refine lv_iconst (v := 2) hx hb dL_pairs_19 (by decide) ?_
  exact xw_ret hx hb hr hlocks hP hS (Nat.le_refl _) (Nat.le_refl _) dL_pairs_20
