/-! X11_beginAnew, X11_lowestOf, X11_monoid, X11_ends, X11_core, X11_signOf, X11_wipe, X11_fault, X11_isVariableOrNone, X11_solutions, X11_solutionsAnew, X11_solve -/
def f_X11_beginAnew (g : xG) (a : xA) (v1 : Int32) : Option (xG × xA) := Option.bind (f_X4_begin g a v1) (fun u1 => Option.bind (f_X10_begin u1.1 u1.2) (fun u3 => some ((t_X2_begin 1 (upd u3.1 4 0) u3.2 1), u3.2)))
set_option maxRecDepth 100000 in
set_option maxHeartbeats 40000000 in
theorem c_X11_beginAnew (l : Launch) (E : xE) (g : xG) (a : xA) (v1 : Int32) {res : xG × xA} (hf : f_X11_beginAnew g a v1 = some res) : xM l E yX11_beginAnew cX11_beginAnew 2 none 2 48 [.ref (E.2.1 0), .int v1] (wX E g a) (xQv E (wX E res.1 res.2)) := by
  unfold f_X11_beginAnew at hf
  refine xM_of (by decide) (Nat.le_of_ble_eq_true rfl) ?_
  intro p e s m below meth c A hx hb hr hml hts hown hlocks hA hD hP hK hN hS ls hl
  have hw : ∀ w ∈ BW, w.before _ s = true := fun w h => hts w (List.mem_cons_of_mem _ h)
  have C0 : xCtx E p m c cX11_beginAnew 2 s _ RX11 A yX11_beginAnew cX11_beginAnew 2 none := ⟨hx, hb, hml, hown, hts, hA, hK, hN⟩
  have hl : lv_has ls 2 [(0, .ref (E.2.1 0)), (1, .int v1)] := hl
  refine lv_aload_n hx hb dX11_beginAnew_0 rfl (lv_at hl 0 rfl) ?_
  refine va_get (C := RX11) (T := TX11) (N := 9) hx hb hw bfX110 hown hK hP 0 (gx_0 E g a) rfl 0 (by decide) (hw _ bw540) (fun _ h9 => h9) rfl dX11_beginAnew_1 ?_
  refine lv_iload_n hx hb dX11_beginAnew_4 rfl (lv_at hl 1 rfl) ?_
  obtain ⟨u1, e2, hf⟩ := bd_some hf
  refine xcv (xRunV (rest := []) (As := [.int v1]) (C := RX4) (k := 1) C0 (c_X4_begin l E g a v1 e2) bw434 bw545 bw22 bw546 bw547 hd_X4_begin ⟨Nat.le_of_ble_eq_true rfl, Nat.le_of_ble_eq_true rfl⟩ hP (wX_D hD) hS (va_recv hK hP (ci := 4) rfl (gx_1 E g a)) rfl hl.1 rfl (Nat.le_of_ble_eq_true rfl) dX11_beginAnew_5 ⟨Nat.zero_le _, Nat.zero_le _⟩) hS (fun H locs hP hS => ?_)
  refine lv_aload_n hx hb dX11_beginAnew_8 rfl (lv_at hl 0 rfl) ?_
  refine va_get (C := RX11) (T := TX11) (N := 9) hx hb hw bfX110 hown hK hP 0 (gx_0 E u1.1 u1.2) rfl 1 (by decide) (hw _ bw541) (fun _ h9 => h9) rfl dX11_beginAnew_9 ?_
  obtain ⟨u3, e4, hf⟩ := bd_some hf
  refine xcv (xRunV (rest := []) (As := []) (C := RX10) (k := 0) C0 (c_X10_begin l E u1.1 u1.2 e4) bw536 bw548 bw115 bw549 bw550 hd_X10_begin ⟨Nat.le_of_ble_eq_true rfl, Nat.le_of_ble_eq_true rfl⟩ hP (wX_D hD) hS (va_recv hK hP (ci := 10) rfl (gx_4 E u1.1 u1.2)) rfl hl.1 rfl (Nat.le_of_ble_eq_true rfl) dX11_beginAnew_12 ⟨Nat.zero_le _, Nat.zero_le _⟩) hS (fun H locs hP hS => ?_)
  refine lv_aload_n hx hb dX11_beginAnew_15 rfl (lv_at hl 0 rfl) ?_
  refine va_get (C := RX11) (T := TX11) (N := 9) hx hb hw bfX110 hown hK hP 0 (gx_0 E u3.1 u3.2) rfl 3 (by decide) (hw _ bw542) (fun _ h9 => h9) rfl dX11_beginAnew_16 ?_
  refine lv_iconst (v := 0) hx hb dX11_beginAnew_19 (by decide) ?_
  refine va_put (v := .int 0) (ty := .int) (C := RX6) (T := TX6) (N := 5) hx hb hw bfX60 tyX6 tyX6_ok nmX6 hown hK hP (wX_D hD) hS 10 (gx_10 E u3.1 u3.2) rfl 0 (by decide) (hw _ bw543) (fun _ h9 => h9) rfl (by decide +kernel) rfl rfl (Nat.le_of_ble_eq_true rfl) dX11_beginAnew_20 (fun H locs hP _ hS => ?_)
  have hP := xP_eq (sx_g4 E u3.1 u3.2 0) hP
  refine lv_aload_n hx hb dX11_beginAnew_23 rfl (lv_at hl 0 rfl) ?_
  refine va_get (C := RX11) (T := TX11) (N := 9) hx hb hw bfX110 hown hK hP 0 (gx_0 E (upd u3.1 4 0) u3.2) rfl 7 (by decide) (hw _ bw544) (fun _ h9 => h9) rfl dX11_beginAnew_24 ?_
  refine lv_iconst (v := 1) hx hb dX11_beginAnew_27 (by decide) ?_
  refine xcv (xRunV (rest := []) (As := [.int 1]) (C := RX2) (k := 1) C0 (c_X2_begin l E 1 (by decide) (upd u3.1 4 0) u3.2 1) bw90 bw551 bw86 bw160 bw161 hd_X2_begin ⟨Nat.le_of_ble_eq_true rfl, Nat.le_of_ble_eq_true rfl⟩ hP (wX_D hD) hS (va_recv hK hP (ci := 2) rfl (gx_31 E (upd u3.1 4 0) u3.2)) rfl hl.1 rfl (Nat.le_of_ble_eq_true rfl) dX11_beginAnew_28 ⟨Nat.zero_le _, Nat.zero_le _⟩) hS (fun H locs hP hS => ?_)
  exact xv_retS (fw := (fun r => wX E r.1 r.2)) hx hb hr hlocks (Option.some.inj hf) hP hS dX11_beginAnew_31
def f_X11_lowestOf_2 (g : xG) (a : xA) : Nat → Int32 → Int32 → Option (Int32)
  | 0, _, _ => none
  | n + 1, x0, x1 => (if 32 ≤ x1 then some (-1) else (if (isInF x1 x0) = 0 then f_X11_lowestOf_2 g a n x0 (x1 + 1) else some x1))
theorem e_X11_lowestOf_2 (g : xG) (a : xA) (n : Nat) (x0 : Int32) (x1 : Int32) : f_X11_lowestOf_2 g a (n + 1) x0 x1 = (if 32 ≤ x1 then some (-1) else (if (isInF x1 x0) = 0 then f_X11_lowestOf_2 g a n x0 (x1 + 1) else some x1)) := rfl
def f_X11_lowestOf (g : xG) (a : xA) (v0 : Int32) : Option (Int32) := f_X11_lowestOf_2 g a fu v0 0
set_option maxRecDepth 100000 in
set_option maxHeartbeats 40000000 in
theorem c_X11_lowestOf (l : Launch) (E : xE) (g : xG) (a : xA) (v0 : Int32) {res : Int32} (hf : f_X11_lowestOf g a v0 = some res) : xM l E yX11_lowestOf cX11_lowestOf 2 (some .int) 1 21 [.int v0] (wX E g a) (xQi E res (wX E g a)) := by
  unfold f_X11_lowestOf at hf
  refine xM_of (by decide) (Nat.le_of_ble_eq_true rfl) ?_
  intro p e s m below meth c A hx hb hr hml hts hown hlocks hA hD hP hK hN hS ls hl
  have hw : ∀ w ∈ BW, w.before _ s = true := fun w h => hts w (List.mem_cons_of_mem _ h)
  have C0 : xCtx E p m c cX11_lowestOf 2 s _ RX11 A yX11_lowestOf cX11_lowestOf 2 (some .int) := ⟨hx, hb, hml, hown, hts, hA, hK, hN⟩
  have hl : lv_has ls 2 [(0, .int v0)] := hl
  have B2 : ∀ (n : Nat) (x0 : Int32) (x1 : Int32) (H : Heap) (locs : List Loc) (ls : Array Slot), va_P E.1 vwCl (wX E g a) H → va_S A s.heap H locs → lv_has ls 2 [(0, .int x0), (1, .int x1)] → f_X11_lowestOf_2 g a n x0 x1 = some res → W p l e ({ frames := 1, cells := 0, slots := 0, locals := 21 }) s m ([.int v0] : List Value).toArray below meth c H locs 0 0 (MQ below ((xQi E res (wX E g a)) A) ([.int v0] : List Value).toArray s 0 0 A) (F0 m 2 ls []) := by
    intro n
    induction n with
    | zero => intro x0 x1 H locs ls hP hS hl hf; exact absurd (show (none : Option (Int32)) = some res from hf) (by intro h; cases h)
    | succ n ih =>
      intro x0 x1 H locs ls hP hS hl hf
      replace hf := (e_X11_lowestOf_2 g a n x0 x1).symm.trans hf
      refine lv_iload_n hx hb dX11_lowestOf_2 rfl (lv_at hl 1 rfl) ?_
      refine lv_bipush (v := 32) hx hb dX11_lowestOf_3 (by decide) ?_
      refine lv_icmp_ge (tgt := 24) hx hb dX11_lowestOf_5 (by decide) (fun c1 => ?_) (fun c1 => ?_)
      · replace hf := (if_pos c1).symm.trans hf
        refine lv_iconst (v := (-1)) hx hb dX11_lowestOf_24 (by decide) ?_
        exact xi_retS (fr := (fun r => r)) (fw := (fun r => wX E g a)) hx hb hr hlocks (Option.some.inj hf) hP hS dX11_lowestOf_25
      · replace hf := (if_neg c1).symm.trans hf
        refine lv_iload_n hx hb dX11_lowestOf_8 rfl (lv_at hl 1 rfl) ?_
        refine lv_iload_n hx hb dX11_lowestOf_9 rfl (lv_at hl 0 rfl) ?_
        refine xci (xRunS (rest := []) (As := [.int x1, .int x0]) (k := 2) C0 (c_isIn l E (wX E g a) x1 x0) bw8 bw616 bw13 bw18 hd_X11_isIn ⟨Nat.le_of_ble_eq_true rfl, Nat.le_of_ble_eq_true rfl⟩ hP (wX_D hD) hS rfl hl.1 rfl (Nat.le_of_ble_eq_true rfl) dX11_lowestOf_10 ⟨Nat.zero_le _, Nat.zero_le _⟩) hS (fun H locs hP hS => ?_)
        refine lv_if_eq (tgt := 18) hx hb dX11_lowestOf_13 (by decide) (fun c2 => ?_) (fun c2 => ?_)
        · replace hf := (if_pos c2).symm.trans hf
          refine lv_iinc (v := (x1 + 1)) (lv' := [(1, .int (x1 + 1)), (0, .int x0)]) hx hb dX11_lowestOf_18 hl (k := 1) rfl rfl (by decide) rfl (fun ls hl => ?_)
          refine lv_goto (tgt := 2) hx hb dX11_lowestOf_21 (by decide) ?_
          exact ih x0 (x1 + 1) _ _ _ hP hS (lv_sub hl [1, 0] rfl) hf
        · replace hf := (if_neg c2).symm.trans hf
          refine lv_iload_n hx hb dX11_lowestOf_16 rfl (lv_at hl 1 rfl) ?_
          exact xi_retS (fr := (fun r => r)) (fw := (fun r => wX E g a)) hx hb hr hlocks (Option.some.inj hf) hP hS dX11_lowestOf_17
  refine lv_iconst (v := 0) hx hb dX11_lowestOf_0 (by decide) ?_
  refine lv_istore_n (lv' := [(1, .int 0), (0, .int v0)]) hx hb dX11_lowestOf_1 rfl hl (by decide) rfl (fun ls hl => ?_)
  exact B2 fu v0 0 _ _ _ hP hS (lv_sub hl [1, 0] rfl) hf
def f_X11_monoid (g : xG) (a : xA) : Option (Int32 × xG × xA) := Option.bind (f_X6_unaryOnes g a) (fun u1 => some ((t_J6_bitCount_0f7a4 u1.2.1 u1.2.2 u1.1), u1.2.1, u1.2.2))
set_option maxRecDepth 100000 in
set_option maxHeartbeats 40000000 in
theorem c_X11_monoid (l : Launch) (E : xE) (g : xG) (a : xA) {res : Int32 × xG × xA} (hf : f_X11_monoid g a = some res) : xM l E yX11_monoid cX11_monoid 1 (some .int) 7 165 [.ref (E.2.1 0)] (wX E g a) (xQi E res.1 (wX E res.2.1 res.2.2)) := by
  unfold f_X11_monoid at hf
  refine xM_of (by decide) (Nat.le_of_ble_eq_true rfl) ?_
  intro p e s m below meth c A hx hb hr hml hts hown hlocks hA hD hP hK hN hS ls hl
  have hw : ∀ w ∈ BW, w.before _ s = true := fun w h => hts w (List.mem_cons_of_mem _ h)
  have C0 : xCtx E p m c cX11_monoid 1 s _ RX11 A yX11_monoid cX11_monoid 1 (some .int) := ⟨hx, hb, hml, hown, hts, hA, hK, hN⟩
  have hl : lv_has ls 1 [(0, .ref (E.2.1 0))] := hl
  refine lv_aload_n hx hb dX11_monoid_0 rfl (lv_at hl 0 rfl) ?_
  refine va_get (C := RX11) (T := TX11) (N := 9) hx hb hw bfX110 hown hK hP 0 (gx_0 E g a) rfl 3 (by decide) (hw _ bw542) (fun _ h9 => h9) rfl dX11_monoid_1 ?_
  obtain ⟨u1, e2, hf⟩ := bd_some hf
  refine xci (xRunV (rest := []) (As := []) (C := RX6) (k := 0) C0 (c_X6_unaryOnes l E g a e2) bw463 bw643 bw450 bw644 bw645 hd_X6_unaryOnes ⟨Nat.le_of_ble_eq_true rfl, Nat.le_of_ble_eq_true rfl⟩ hP (wX_D hD) hS (va_recv hK hP (ci := 6) rfl (gx_10 E g a)) rfl hl.1 rfl (Nat.le_of_ble_eq_true rfl) dX11_monoid_4 ⟨Nat.zero_le _, Nat.zero_le _⟩) hS (fun H locs hP hS => ?_)
  refine xci (xRunS (rest := []) (As := [.int u1.1]) (k := 1) C0 (c_J6_bitCount_0f7a4 l E u1.2.1 u1.2.2 u1.1) bw355 bw618 bw362 bw361 hd_J6_bitCount_0f7a4 ⟨Nat.le_of_ble_eq_true rfl, Nat.le_of_ble_eq_true rfl⟩ hP (wX_D hD) hS rfl hl.1 rfl (Nat.le_of_ble_eq_true rfl) dX11_monoid_7 ⟨Nat.zero_le _, Nat.zero_le _⟩) hS (fun H locs hP hS => ?_)
  exact xi_retS (fr := (fun r => r.1)) (fw := (fun r => wX E r.2.1 r.2.2)) hx hb hr hlocks (Option.some.inj hf) hP hS dX11_monoid_10
def f_X11_ends (g : xG) (a : xA) : Option (Int32 × xG × xA) := Option.bind (f_X3_countEnds g a) (fun u1 => some (u1.1, u1.2.1, u1.2.2))
set_option maxRecDepth 100000 in
set_option maxHeartbeats 40000000 in
theorem c_X11_ends (l : Launch) (E : xE) (g : xG) (a : xA) {res : Int32 × xG × xA} (hf : f_X11_ends g a = some res) : xM l E yX11_ends cX11_ends 1 (some .int) 7 158 [.ref (E.2.1 0)] (wX E g a) (xQi E res.1 (wX E res.2.1 res.2.2)) := by
  unfold f_X11_ends at hf
  refine xM_of (by decide) (Nat.le_of_ble_eq_true rfl) ?_
  intro p e s m below meth c A hx hb hr hml hts hown hlocks hA hD hP hK hN hS ls hl
  have hw : ∀ w ∈ BW, w.before _ s = true := fun w h => hts w (List.mem_cons_of_mem _ h)
  have C0 : xCtx E p m c cX11_ends 1 s _ RX11 A yX11_ends cX11_ends 1 (some .int) := ⟨hx, hb, hml, hown, hts, hA, hK, hN⟩
  have hl : lv_has ls 1 [(0, .ref (E.2.1 0))] := hl
  refine lv_aload_n hx hb dX11_ends_0 rfl (lv_at hl 0 rfl) ?_
  refine va_get (C := RX11) (T := TX11) (N := 9) hx hb hw bfX110 hown hK hP 0 (gx_0 E g a) rfl 4 (by decide) (hw _ bw565) (fun _ h9 => h9) rfl dX11_ends_1 ?_
  obtain ⟨u1, e2, hf⟩ := bd_some hf
  refine xci (xRunV (rest := []) (As := []) (C := RX3) (k := 0) C0 (c_X3_countEnds l E g a e2) bw414 bw664 bw303 bw665 bw666 hd_X3_countEnds ⟨Nat.le_of_ble_eq_true rfl, Nat.le_of_ble_eq_true rfl⟩ hP (wX_D hD) hS (va_recv hK hP (ci := 3) rfl (gx_13 E g a)) rfl hl.1 rfl (Nat.le_of_ble_eq_true rfl) dX11_ends_4 ⟨Nat.zero_le _, Nat.zero_le _⟩) hS (fun H locs hP hS => ?_)
  exact xi_retS (fr := (fun r => r.1)) (fw := (fun r => wX E r.2.1 r.2.2)) hx hb hr hlocks (Option.some.inj hf) hP hS dX11_ends_7
def f_X11_core (g : xG) (a : xA) : Option (Int32 × xG × xA) := Option.bind (f_X3_fewestEndValues g a) (fun u1 => some (u1.1, u1.2.1, u1.2.2))
set_option maxRecDepth 100000 in
set_option maxHeartbeats 40000000 in
theorem c_X11_core (l : Launch) (E : xE) (g : xG) (a : xA) {res : Int32 × xG × xA} (hf : f_X11_core g a = some res) : xM l E yX11_core cX11_core 1 (some .int) 7 158 [.ref (E.2.1 0)] (wX E g a) (xQi E res.1 (wX E res.2.1 res.2.2)) := by
  unfold f_X11_core at hf
  refine xM_of (by decide) (Nat.le_of_ble_eq_true rfl) ?_
  intro p e s m below meth c A hx hb hr hml hts hown hlocks hA hD hP hK hN hS ls hl
  have hw : ∀ w ∈ BW, w.before _ s = true := fun w h => hts w (List.mem_cons_of_mem _ h)
  have C0 : xCtx E p m c cX11_core 1 s _ RX11 A yX11_core cX11_core 1 (some .int) := ⟨hx, hb, hml, hown, hts, hA, hK, hN⟩
  have hl : lv_has ls 1 [(0, .ref (E.2.1 0))] := hl
  refine lv_aload_n hx hb dX11_core_0 rfl (lv_at hl 0 rfl) ?_
  refine va_get (C := RX11) (T := TX11) (N := 9) hx hb hw bfX110 hown hK hP 0 (gx_0 E g a) rfl 4 (by decide) (hw _ bw565) (fun _ h9 => h9) rfl dX11_core_1 ?_
  obtain ⟨u1, e2, hf⟩ := bd_some hf
  refine xci (xRunV (rest := []) (As := []) (C := RX3) (k := 0) C0 (c_X3_fewestEndValues l E g a e2) bw422 bw668 bw303 bw669 bw670 hd_X3_fewestEndValues ⟨Nat.le_of_ble_eq_true rfl, Nat.le_of_ble_eq_true rfl⟩ hP (wX_D hD) hS (va_recv hK hP (ci := 3) rfl (gx_13 E g a)) rfl hl.1 rfl (Nat.le_of_ble_eq_true rfl) dX11_core_4 ⟨Nat.zero_le _, Nat.zero_le _⟩) hS (fun H locs hP hS => ?_)
  exact xi_retS (fr := (fun r => r.1)) (fw := (fun r => wX E r.2.1 r.2.2)) hx hb hr hlocks (Option.some.inj hf) hP hS dX11_core_7
def f_X11_signOf (g : xG) (a : xA) (v0 : Int64) (v2 : Int32) : Option (Int32) := ck (chB (((((((((v0).toUInt64 >>> (((8 * v2)).toInt64.toUInt64 &&& Int64.toUInt64 63)).toInt64) &&& 255) : Int64).toInt32) : Int32).toUInt32 % 65536).toInt32)) (some (((((((((v0).toUInt64 >>> (((8 * v2)).toInt64.toUInt64 &&& Int64.toUInt64 63)).toInt64) &&& 255) : Int64).toInt32) : Int32).toUInt32 % 65536).toInt32))
set_option maxRecDepth 100000 in
set_option maxHeartbeats 40000000 in
theorem c_X11_signOf (l : Launch) (E : xE) (g : xG) (a : xA) (v0 : Int64) (v2 : Int32) {res : Int32} (hf : f_X11_signOf g a v0 v2 = some res) : xM l E yX11_signOf cX11_signOf 3 (some .char) 0 0 [.long v0, .int v2] (wX E g a) (xQi E res (wX E g a)) := by
  unfold f_X11_signOf at hf
  refine xM_of (by decide) (Nat.le_of_ble_eq_true rfl) ?_
  intro p e s m below meth c A hx hb hr hml hts hown hlocks hA hD hP hK hN hS ls hl
  have hw : ∀ w ∈ BW, w.before _ s = true := fun w h => hts w (List.mem_cons_of_mem _ h)
  have C0 : xCtx E p m c cX11_signOf 3 s _ RX11 A yX11_signOf cX11_signOf 3 (some .char) := ⟨hx, hb, hml, hown, hts, hA, hK, hN⟩
  have hl : lv_has ls 3 [(0, .long v0), (2, .int v2)] := hl
  refine lv_lload_n hx hb dX11_signOf_0 rfl (lv_at hl 0 rfl) ?_
  refine lv_bipush (v := 8) hx hb dX11_signOf_1 (by decide) ?_
  refine lv_iload_n hx hb dX11_signOf_3 rfl (lv_at hl 1 rfl) ?_
  refine lv_imul hx hb dX11_signOf_4 ?_
  refine lv_lushr (v := (((v0).toUInt64 >>> (((8 * v2)).toInt64.toUInt64 &&& Int64.toUInt64 63)).toInt64)) hx hb dX11_signOf_5 rfl ?_
  refine lv_ldc2 hx hb hown (hw _ bw677) dX11_signOf_6 ?_
  refine lv_land hx hb dX11_signOf_9 ?_
  refine lv_l2i (v := ((((((v0).toUInt64 >>> (((8 * v2)).toInt64.toUInt64 &&& Int64.toUInt64 63)).toInt64) &&& 255) : Int64).toInt32)) hx hb dX11_signOf_10 rfl ?_
  refine lv_i2c (v := (((((((((v0).toUInt64 >>> (((8 * v2)).toInt64.toUInt64 &&& Int64.toUInt64 63)).toInt64) &&& 255) : Int64).toInt32) : Int32).toUInt32 % 65536).toInt32)) hx hb dX11_signOf_11 rfl ?_
  obtain ⟨k1, hf⟩ := ck_some hf
  exact xz_retS (fr := (fun r => r)) (fw := (fun r => wX E g a)) hx hb hr hlocks (Option.some.inj hf) (chB_ch k1) hP hS dX11_signOf_12
def t_X11_wipe (g : xG) (a : xA) : Int32 × xG := ((g 6), (upd g 6 0))
set_option maxRecDepth 100000 in
set_option maxHeartbeats 40000000 in
theorem c_X11_wipe (l : Launch) (E : xE) (g : xG) (a : xA) : xM l E yX11_wipe cX11_wipe 2 (some .int) 0 0 [.ref (E.2.1 0)] (wX E g a) (xQi E (t_X11_wipe g a).1 (wX E (t_X11_wipe g a).2 a)) := by
  obtain ⟨res, hres⟩ : ∃ z, z = t_X11_wipe g a := ⟨_, rfl⟩
  rw [← hres]
  have hf : _ = res := hres.symm
  unfold t_X11_wipe at hf
  refine xM_of (by decide) (Nat.le_of_ble_eq_true rfl) ?_
  intro p e s m below meth c A hx hb hr hml hts hown hlocks hA hD hP hK hN hS ls hl
  have hw : ∀ w ∈ BW, w.before _ s = true := fun w h => hts w (List.mem_cons_of_mem _ h)
  have C0 : xCtx E p m c cX11_wipe 2 s _ RX11 A yX11_wipe cX11_wipe 2 (some .int) := ⟨hx, hb, hml, hown, hts, hA, hK, hN⟩
  have hl : lv_has ls 2 [(0, .ref (E.2.1 0))] := hl
  refine lv_aload_n hx hb dX11_wipe_0 rfl (lv_at hl 0 rfl) ?_
  refine va_get (C := RX11) (T := TX11) (N := 9) hx hb hw bfX110 hown hK hP 0 (gx_0 E g a) rfl 5 (by decide) (hw _ bw568) (fun _ h9 => h9) rfl dX11_wipe_1 ?_
  refine va_get (C := RX9) (T := TX9) (N := 2) hx hb hw bfX90 hown hK hP 19 (gx_19 E g a) rfl 0 (by decide) (hw _ bw679) (fun _ h9 => h9) rfl dX11_wipe_4 ?_
  refine lv_istore_n (lv' := [(1, .int (g 6)), (0, .ref (E.2.1 0))]) hx hb dX11_wipe_7 rfl hl (by decide) rfl (fun ls hl => ?_)
  refine lv_aload_n hx hb dX11_wipe_8 rfl (lv_at hl 1 rfl) ?_
  refine va_get (C := RX11) (T := TX11) (N := 9) hx hb hw bfX110 hown hK hP 0 (gx_0 E g a) rfl 5 (by decide) (hw _ bw568) (fun _ h9 => h9) rfl dX11_wipe_9 ?_
  refine lv_iconst (v := 0) hx hb dX11_wipe_12 (by decide) ?_
  refine va_put (v := .int 0) (ty := .int) (C := RX9) (T := TX9) (N := 2) hx hb hw bfX90 tyX9 tyX9_ok nmX9 hown hK hP (wX_D hD) hS 19 (gx_19 E g a) rfl 0 (by decide) (hw _ bw679) (fun _ h9 => h9) rfl (by decide +kernel) rfl rfl (Nat.le_of_ble_eq_true rfl) dX11_wipe_13 (fun H locs hP _ hS => ?_)
  have hP := xP_eq (sx_g6 E g a 0) hP
  refine lv_iload_n hx hb dX11_wipe_16 rfl (lv_at hl 0 rfl) ?_
  exact xi_retS (fr := (fun r => r.1)) (fw := (fun r => wX E r.2 a)) hx hb hr hlocks hf hP hS dX11_wipe_17
def f_X11_fault (g : xG) (a : xA) : Option (Int32 × xG × xA) := Option.bind (f_X1_read g a) (fun u1 => some (u1.1, u1.2.1, u1.2.2))
set_option maxRecDepth 100000 in
set_option maxHeartbeats 40000000 in
theorem c_X11_fault (l : Launch) (E : xE) (g : xG) (a : xA) {res : Int32 × xG × xA} (hf : f_X11_fault g a = some res) : xM l E yX11_fault cX11_fault 1 (some .int) 7 154 [.ref (E.2.1 0)] (wX E g a) (xQi E res.1 (wX E res.2.1 res.2.2)) := by
  unfold f_X11_fault at hf
  refine xM_of (by decide) (Nat.le_of_ble_eq_true rfl) ?_
  intro p e s m below meth c A hx hb hr hml hts hown hlocks hA hD hP hK hN hS ls hl
  have hw : ∀ w ∈ BW, w.before _ s = true := fun w h => hts w (List.mem_cons_of_mem _ h)
  have C0 : xCtx E p m c cX11_fault 1 s _ RX11 A yX11_fault cX11_fault 1 (some .int) := ⟨hx, hb, hml, hown, hts, hA, hK, hN⟩
  have hl : lv_has ls 1 [(0, .ref (E.2.1 0))] := hl
  refine lv_aload_n hx hb dX11_fault_0 rfl (lv_at hl 0 rfl) ?_
  refine va_get (C := RX11) (T := TX11) (N := 9) hx hb hw bfX110 hown hK hP 0 (gx_0 E g a) rfl 6 (by decide) (hw _ bw571) (fun _ h9 => h9) rfl dX11_fault_1 ?_
  refine lv_aload_n hx hb dX11_fault_4 rfl (lv_at hl 0 rfl) ?_
  refine va_get (C := RX11) (T := TX11) (N := 9) hx hb hw bfX110 hown hK hP 0 (gx_0 E g a) rfl 5 (by decide) (hw _ bw568) (fun _ h9 => h9) rfl dX11_fault_5 ?_
  obtain ⟨u1, e2, hf⟩ := bd_some hf
  refine xci (xRunV (rest := []) (As := [.ref (E.2.1 19)]) (C := RX1) (k := 1) C0 (c_X1_read l E g a e2) bw168 bw688 bw147 bw689 bw690 hd_X1_read ⟨Nat.le_of_ble_eq_true rfl, Nat.le_of_ble_eq_true rfl⟩ hP (wX_D hD) hS (va_recv hK hP (ci := 1) rfl (gx_21 E g a)) rfl hl.1 rfl (Nat.le_of_ble_eq_true rfl) dX11_fault_8 ⟨Nat.zero_le _, Nat.zero_le _⟩) hS (fun H locs hP hS => ?_)
  exact xi_retS (fr := (fun r => r.1)) (fw := (fun r => wX E r.2.1 r.2.2)) hx hb hr hlocks (Option.some.inj hf) hP hS dX11_fault_11
def t_X11_isVariableOrNone (g : xG) (a : xA) (v1 : Int32) : Int32 := (if v1 = (-1) then 1 else (if (t_X2_isThere 1 g a v1) = 0 then 0 else 1))
set_option maxRecDepth 100000 in
set_option maxHeartbeats 40000000 in
theorem c_X11_isVariableOrNone (l : Launch) (E : xE) (g : xG) (a : xA) (v1 : Int32) : xM l E yX11_isVariableOrNone cX11_isVariableOrNone 2 (some .boolean) 1 21 [.ref (E.2.1 0), .int v1] (wX E g a) (xQi E (t_X11_isVariableOrNone g a v1) (wX E g a)) := by
  obtain ⟨res, hres⟩ : ∃ z, z = t_X11_isVariableOrNone g a v1 := ⟨_, rfl⟩
  rw [← hres]
  have hf : _ = res := hres.symm
  unfold t_X11_isVariableOrNone at hf
  refine xM_of (by decide) (Nat.le_of_ble_eq_true rfl) ?_
  intro p e s m below meth c A hx hb hr hml hts hown hlocks hA hD hP hK hN hS ls hl
  have hw : ∀ w ∈ BW, w.before _ s = true := fun w h => hts w (List.mem_cons_of_mem _ h)
  have C0 : xCtx E p m c cX11_isVariableOrNone 2 s _ RX11 A yX11_isVariableOrNone cX11_isVariableOrNone 2 (some .boolean) := ⟨hx, hb, hml, hown, hts, hA, hK, hN⟩
  have hl : lv_has ls 2 [(0, .ref (E.2.1 0)), (1, .int v1)] := hl
  refine lv_iload_n hx hb dX11_isVariableOrNone_0 rfl (lv_at hl 1 rfl) ?_
  refine lv_iconst (v := (-1)) hx hb dX11_isVariableOrNone_1 (by decide) ?_
  refine lv_icmp_eq (tgt := 16) hx hb dX11_isVariableOrNone_2 (by decide) (fun c1 => ?_) (fun c1 => ?_)
  · replace hf := (if_pos c1).symm.trans hf
    refine lv_iconst (v := 1) hx hb dX11_isVariableOrNone_16 (by decide) ?_
    refine lv_goto (tgt := 21) hx hb dX11_isVariableOrNone_17 (by decide) ?_
    exact xz_retS (fr := (fun r => r)) (fw := (fun r => wX E g a)) hx hb hr hlocks hf nz1 hP hS dX11_isVariableOrNone_21
  · replace hf := (if_neg c1).symm.trans hf
    refine lv_aload_n hx hb dX11_isVariableOrNone_5 rfl (lv_at hl 0 rfl) ?_
    refine va_get (C := RX11) (T := TX11) (N := 9) hx hb hw bfX110 hown hK hP 0 (gx_0 E g a) rfl 7 (by decide) (hw _ bw544) (fun _ h9 => h9) rfl dX11_isVariableOrNone_6 ?_
    refine lv_iload_n hx hb dX11_isVariableOrNone_9 rfl (lv_at hl 1 rfl) ?_
    refine xci (xRunV (rest := []) (As := [.int v1]) (C := RX2) (k := 1) C0 (c_X2_isThere l E 1 (by decide) g a v1) bw208 bw700 bw86 bw701 bw702 hd_X2_isThere ⟨Nat.le_of_ble_eq_true rfl, Nat.le_of_ble_eq_true rfl⟩ hP (wX_D hD) hS (va_recv hK hP (ci := 2) rfl (gx_31 E g a)) rfl hl.1 rfl (Nat.le_of_ble_eq_true rfl) dX11_isVariableOrNone_10 ⟨Nat.zero_le _, Nat.zero_le _⟩) hS (fun H locs hP hS => ?_)
    refine lv_if_eq (tgt := 20) hx hb dX11_isVariableOrNone_13 (by decide) (fun c2 => ?_) (fun c2 => ?_)
    · replace hf := (if_pos c2).symm.trans hf
      refine lv_iconst (v := 0) hx hb dX11_isVariableOrNone_20 (by decide) ?_
      exact xz_retS (fr := (fun r => r)) (fw := (fun r => wX E g a)) hx hb hr hlocks hf nz0 hP hS dX11_isVariableOrNone_21
    · replace hf := (if_neg c2).symm.trans hf
      refine lv_iconst (v := 1) hx hb dX11_isVariableOrNone_16 (by decide) ?_
      refine lv_goto (tgt := 21) hx hb dX11_isVariableOrNone_17 (by decide) ?_
      exact xz_retS (fr := (fun r => r)) (fw := (fun r => wX E g a)) hx hb hr hlocks hf nz1 hP hS dX11_isVariableOrNone_21
def f_X11_solutions (g : xG) (a : xA) : Option (Int32 × xA) := Option.bind (f_X2_countSolutions 1 g a) (fun u1 => some (u1.1, u1.2))
set_option maxRecDepth 100000 in
set_option maxHeartbeats 40000000 in
theorem c_X11_solutions (l : Launch) (E : xE) (g : xG) (a : xA) {res : Int32 × xA} (hf : f_X11_solutions g a = some res) : xM l E yX11_solutions cX11_solutions 1 (some .int) 14 324 [.ref (E.2.1 0)] (wX E g a) (xQi E res.1 (wX E g res.2)) := by
  unfold f_X11_solutions at hf
  refine xM_of (by decide) (Nat.le_of_ble_eq_true rfl) ?_
  intro p e s m below meth c A hx hb hr hml hts hown hlocks hA hD hP hK hN hS ls hl
  have hw : ∀ w ∈ BW, w.before _ s = true := fun w h => hts w (List.mem_cons_of_mem _ h)
  have C0 : xCtx E p m c cX11_solutions 1 s _ RX11 A yX11_solutions cX11_solutions 1 (some .int) := ⟨hx, hb, hml, hown, hts, hA, hK, hN⟩
  have hl : lv_has ls 1 [(0, .ref (E.2.1 0))] := hl
  refine lv_aload_n hx hb dX11_solutions_0 rfl (lv_at hl 0 rfl) ?_
  refine va_get (C := RX11) (T := TX11) (N := 9) hx hb hw bfX110 hown hK hP 0 (gx_0 E g a) rfl 7 (by decide) (hw _ bw544) (fun _ h9 => h9) rfl dX11_solutions_1 ?_
  obtain ⟨u1, e2, hf⟩ := bd_some hf
  refine xci (xRunV (rest := []) (As := []) (C := RX2) (k := 0) C0 (c_X2_countSolutions l E 1 (by decide) g a e2) bw212 bw708 bw86 bw709 bw710 hd_X2_countSolutions ⟨Nat.le_of_ble_eq_true rfl, Nat.le_of_ble_eq_true rfl⟩ hP (wX_D hD) hS (va_recv hK hP (ci := 2) rfl (gx_31 E g a)) rfl hl.1 rfl (Nat.le_of_ble_eq_true rfl) dX11_solutions_4 ⟨Nat.zero_le _, Nat.zero_le _⟩) hS (fun H locs hP hS => ?_)
  exact xi_retS (fr := (fun r => r.1)) (fw := (fun r => wX E g r.2)) hx hb hr hlocks (Option.some.inj hf) hP hS dX11_solutions_7
def f_X11_solutionsAnew (g : xG) (a : xA) : Option (Int32 × xA) := Option.bind (f_X2_countByTryingAll 1 g a) (fun u1 => some (u1.1, u1.2))
set_option maxRecDepth 100000 in
set_option maxHeartbeats 40000000 in
theorem c_X11_solutionsAnew (l : Launch) (E : xE) (g : xG) (a : xA) {res : Int32 × xA} (hf : f_X11_solutionsAnew g a = some res) : xM l E yX11_solutionsAnew cX11_solutionsAnew 1 (some .int) 5 109 [.ref (E.2.1 0)] (wX E g a) (xQi E res.1 (wX E g res.2)) := by
  unfold f_X11_solutionsAnew at hf
  refine xM_of (by decide) (Nat.le_of_ble_eq_true rfl) ?_
  intro p e s m below meth c A hx hb hr hml hts hown hlocks hA hD hP hK hN hS ls hl
  have hw : ∀ w ∈ BW, w.before _ s = true := fun w h => hts w (List.mem_cons_of_mem _ h)
  have C0 : xCtx E p m c cX11_solutionsAnew 1 s _ RX11 A yX11_solutionsAnew cX11_solutionsAnew 1 (some .int) := ⟨hx, hb, hml, hown, hts, hA, hK, hN⟩
  have hl : lv_has ls 1 [(0, .ref (E.2.1 0))] := hl
  refine lv_aload_n hx hb dX11_solutionsAnew_0 rfl (lv_at hl 0 rfl) ?_
  refine va_get (C := RX11) (T := TX11) (N := 9) hx hb hw bfX110 hown hK hP 0 (gx_0 E g a) rfl 7 (by decide) (hw _ bw544) (fun _ h9 => h9) rfl dX11_solutionsAnew_1 ?_
  obtain ⟨u1, e2, hf⟩ := bd_some hf
  refine xci (xRunV (rest := []) (As := []) (C := RX2) (k := 0) C0 (c_X2_countByTryingAll l E 1 (by decide) g a e2) bw223 bw712 bw86 bw713 bw714 hd_X2_countByTryingAll ⟨Nat.le_of_ble_eq_true rfl, Nat.le_of_ble_eq_true rfl⟩ hP (wX_D hD) hS (va_recv hK hP (ci := 2) rfl (gx_31 E g a)) rfl hl.1 rfl (Nat.le_of_ble_eq_true rfl) dX11_solutionsAnew_4 ⟨Nat.zero_le _, Nat.zero_le _⟩) hS (fun H locs hP hS => ?_)
  exact xi_retS (fr := (fun r => r.1)) (fw := (fun r => wX E g r.2)) hx hb hr hlocks (Option.some.inj hf) hP hS dX11_solutionsAnew_7
def f_X11_solve (g : xG) (a : xA) : Option (Int32 × xA) := Option.bind (f_X2_lowestSolution 1 g a) (fun u1 => some (u1.1, u1.2))
set_option maxRecDepth 100000 in
set_option maxHeartbeats 40000000 in
theorem c_X11_solve (l : Launch) (E : xE) (g : xG) (a : xA) {res : Int32 × xA} (hf : f_X11_solve g a = some res) : xM l E yX11_solve cX11_solve 1 (some .int) 15 346 [.ref (E.2.1 0)] (wX E g a) (xQi E res.1 (wX E g res.2)) := by
  unfold f_X11_solve at hf
  refine xM_of (by decide) (Nat.le_of_ble_eq_true rfl) ?_
  intro p e s m below meth c A hx hb hr hml hts hown hlocks hA hD hP hK hN hS ls hl
  have hw : ∀ w ∈ BW, w.before _ s = true := fun w h => hts w (List.mem_cons_of_mem _ h)
  have C0 : xCtx E p m c cX11_solve 1 s _ RX11 A yX11_solve cX11_solve 1 (some .int) := ⟨hx, hb, hml, hown, hts, hA, hK, hN⟩
  have hl : lv_has ls 1 [(0, .ref (E.2.1 0))] := hl
  refine lv_aload_n hx hb dX11_solve_0 rfl (lv_at hl 0 rfl) ?_
  refine va_get (C := RX11) (T := TX11) (N := 9) hx hb hw bfX110 hown hK hP 0 (gx_0 E g a) rfl 7 (by decide) (hw _ bw544) (fun _ h9 => h9) rfl dX11_solve_1 ?_
  obtain ⟨u1, e2, hf⟩ := bd_some hf
  refine xci (xRunV (rest := []) (As := []) (C := RX2) (k := 0) C0 (c_X2_lowestSolution l E 1 (by decide) g a e2) bw214 bw716 bw86 bw717 bw718 hd_X2_lowestSolution ⟨Nat.le_of_ble_eq_true rfl, Nat.le_of_ble_eq_true rfl⟩ hP (wX_D hD) hS (va_recv hK hP (ci := 2) rfl (gx_31 E g a)) rfl hl.1 rfl (Nat.le_of_ble_eq_true rfl) dX11_solve_4 ⟨Nat.zero_le _, Nat.zero_le _⟩) hS (fun H locs hP hS => ?_)
  exact xi_retS (fr := (fun r => r.1)) (fw := (fun r => wX E g r.2)) hx hb hr hlocks (Option.some.inj hf) hP hS dX11_solve_7
