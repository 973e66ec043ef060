/-! The calls that may throw, where they return: nothing new is made. -/
def rgt {α β : Type} : Option (β ⊕ α) → Option α := fun x => x.bind (fun y => y.elim (fun _ => none) (fun z => some z))
theorem rgt_some {α β : Type} {x : Option (β ⊕ α)} {z : α} (h : rgt x = some z) : x = some (.inr z) := by
  cases x with
  | none => cases h
  | some y =>
    cases y with
    | inl w => cases h
    | inr w => cases h; rfl
theorem rgt_r {α β : Type} (z : α) : rgt (some (.inr z : β ⊕ α)) = some z := rfl
set_option maxRecDepth 100000 in
set_option maxHeartbeats 40000000 in
theorem cr_X11_values (l : Launch) (E : xE) (g : xG) (a : xA) (v1 : Int32) {res : Int32 × xG × xA} (hf : f_X11_values g a v1 = some (.inr res)) : xM l E yX11_values cX11_values 3 (some .int) 3 69 [.ref (E.2.1 0), .int v1] (wX E g a) (xQi E res.1 (wX E res.2.1 res.2.2)) := by
  unfold f_X11_values at hf
  refine xM_of (by decide) (Nat.le_of_ble_eq_true rfl) ?_
  intro p e s m below meth c A hx hb hr hml hts hown hlocks hA hD hP hK hN hS ls hl
  have hw : ∀ w ∈ BW, w.before _ s = true := fun w h => hts w (List.mem_cons_of_mem _ h)
  have C0 : xCtx E p m c cX11_values 3 s _ RX11 A yX11_values cX11_values 3 (some .int) := ⟨hx, hb, hml, hown, hts, hA, hK, hN⟩
  have hl : lv_has ls 3 [(0, .ref (E.2.1 0)), (1, .int v1)] := hl
  have B20 : ∀ (g : xG) (a : xA) (x1 : Int32) (H : Heap) (locs : List Loc) (ls : Array Slot), va_P E.1 vwCl (wX E g a) H → va_S A s.heap H locs → lv_has ls 3 [(0, .ref (E.2.1 0)), (1, .int x1)] → f_X11_values_20 g a x1 = some (.inr res) → W p l e ({ frames := 3, cells := 0, slots := 0, locals := 69 }) s m ([.ref (E.2.1 0), .int v1] : List Value).toArray below meth c H locs 0 0 (MQ below ((xQi E res.1 (wX E res.2.1 res.2.2)) A) ([.ref (E.2.1 0), .int v1] : List Value).toArray s 0 0 A) (F0 m 20 ls []) := by
    intro g a x1 H locs ls hP hS hl hf
    unfold f_X11_values_20 at hf
    refine lv_aload_n hx hb dX11_values_20 rfl (lv_at hl 0 rfl) ?_
    refine va_get (C := RX11) (T := TX11) (N := 9) hx hb hw bfX110 hown hK hP 0 (gx_0 E g a) rfl 0 (by decide) (hw _ bw540) (fun _ h9 => h9) rfl dX11_values_21 ?_
    refine va_get (C := RX4) (T := TX4) (N := 3) hx hb hw bfX40 hown hK hP 1 (gx_1 E g a) rfl 0 (by decide) (hw _ bw597) (fun _ h9 => h9) rfl dX11_values_24 ?_
    refine lv_istore_n (lv' := [(2, .int (g 0)), (0, .ref (E.2.1 0)), (1, .int x1)]) hx hb dX11_values_27 rfl hl (by decide) rfl (fun ls hl => ?_)
    refine lv_aload_n hx hb dX11_values_28 rfl (lv_at hl 1 rfl) ?_
    refine lv_iload_n hx hb dX11_values_29 rfl (lv_at hl 2 rfl) ?_
    obtain ⟨u3, e4, hf⟩ := bd_some hf
    refine xcv (xRunV (rest := []) (As := [.int x1]) (C := RX11) (k := 1) C0 (c_X11_beginAnew l E g a x1 e4) bw552 bw591 bw13 bw592 bw593 hd_X11_beginAnew ⟨Nat.le_of_ble_eq_true rfl, Nat.le_of_ble_eq_true rfl⟩ hP (wX_D hD) hS (va_recv hK hP (ci := 11) rfl (gx_0 E g a)) rfl hl.1 rfl (Nat.le_of_ble_eq_true rfl) dX11_values_30 ⟨Nat.zero_le _, Nat.zero_le _⟩) hS (fun H locs hP hS => ?_)
    refine lv_iload_n hx hb dX11_values_33 rfl (lv_at hl 0 rfl) ?_
    exact xi_retS (fr := (fun r => r.1)) (fw := (fun r => wX E r.2.1 r.2.2)) hx hb hr hlocks (Sum.inr.inj (Option.some.inj hf)) hP hS dX11_values_34
  refine lv_iload_n hx hb dX11_values_0 rfl (lv_at hl 1 rfl) ?_
  refine lv_iconst (v := 2) hx hb dX11_values_1 (by decide) ?_
  refine lv_icmp_eq (tgt := 20) hx hb dX11_values_2 (by decide) (fun c1 => ?_) (fun c1 => ?_)
  · replace hf := (if_pos c1).symm.trans hf
    exact B20 g a v1 _ _ _ hP hS (lv_sub hl [0, 1] rfl) hf
  · replace hf := (if_neg c1).symm.trans hf
    refine lv_iload_n hx hb dX11_values_5 rfl (lv_at hl 1 rfl) ?_
    refine lv_iconst (v := 3) hx hb dX11_values_6 (by decide) ?_
    refine lv_icmp_eq (tgt := 20) hx hb dX11_values_7 (by decide) (fun c2 => ?_) (fun c2 => ?_)
    · replace hf := (if_pos c2).symm.trans hf
      exact B20 g a v1 _ _ _ hP hS (lv_sub hl [0, 1] rfl) hf
    · replace hf := (if_neg c2).symm.trans hf
      exact absurd (Option.some.inj hf) (by intro h; cases h)
set_option maxRecDepth 100000 in
set_option maxHeartbeats 40000000 in
theorem cr_X11_relation (l : Launch) (E : xE) (g : xG) (a : xA) (v1 : Int32) {res : Int32 × xG × xA} (hf : f_X11_relation g a v1 = some (.inr res)) : xM l E yX11_relation cX11_relation 2 (some .int) 2 45 [.ref (E.2.1 0), .int v1] (wX E g a) (xQi E res.1 (wX E res.2.1 res.2.2)) := by
  unfold f_X11_relation at hf
  refine xM_of (by decide) (Nat.le_of_ble_eq_true rfl) ?_
  intro p e s m below meth c A hx hb hr hml hts hown hlocks hA hD hP hK hN hS ls hl
  have hw : ∀ w ∈ BW, w.before _ s = true := fun w h => hts w (List.mem_cons_of_mem _ h)
  have C0 : xCtx E p m c cX11_relation 2 s _ RX11 A yX11_relation cX11_relation 2 (some .int) := ⟨hx, hb, hml, hown, hts, hA, hK, hN⟩
  have hl : lv_has ls 2 [(0, .ref (E.2.1 0)), (1, .int v1)] := hl
  have B16 : ∀ (g : xG) (a : xA) (H : Heap) (locs : List Loc) (ls : Array Slot), va_P E.1 vwCl (wX E g a) H → va_S A s.heap H locs → lv_has ls 2 [] → f_X11_relation_16 g a = some (.inr res) → W p l e ({ frames := 2, cells := 0, slots := 0, locals := 45 }) s m ([.ref (E.2.1 0), .int v1] : List Value).toArray below meth c H locs 0 0 (MQ below ((xQi E res.1 (wX E res.2.1 res.2.2)) A) ([.ref (E.2.1 0), .int v1] : List Value).toArray s 0 0 A) (F0 m 16 ls []) := by
    intro g a H locs ls hP hS hl hf
    unfold f_X11_relation_16 at hf
    exact absurd (Option.some.inj hf) (by intro h; cases h)
  refine lv_iload_n hx hb dX11_relation_0 rfl (lv_at hl 1 rfl) ?_
  refine lv_iconst (v := 1) hx hb dX11_relation_1 (by decide) ?_
  refine lv_icmp_lt (tgt := 16) hx hb dX11_relation_2 (by decide) (fun c1 => ?_) (fun c1 => ?_)
  · replace hf := (if_pos c1).symm.trans hf
    exact B16 g a _ _ _ hP hS (lv_sub hl [] rfl) hf
  · replace hf := (if_neg c1).symm.trans hf
    refine lv_iload_n hx hb dX11_relation_5 rfl (lv_at hl 1 rfl) ?_
    refine lv_aload_n hx hb dX11_relation_6 rfl (lv_at hl 0 rfl) ?_
    refine va_get (C := RX11) (T := TX11) (N := 9) hx hb hw bfX110 hown hK hP 0 (gx_0 E g a) rfl 0 (by decide) (hw _ bw540) (fun _ h9 => h9) rfl dX11_relation_7 ?_
    refine xci (xRunV (rest := [.int v1]) (As := []) (C := RX4) (k := 0) C0 (c_X4_widest l E g a) bw96 bw603 bw22 bw105 bw106 hd_X4_widest ⟨Nat.le_of_ble_eq_true rfl, Nat.le_of_ble_eq_true rfl⟩ hP (wX_D hD) hS (va_recv hK hP (ci := 4) rfl (gx_1 E g a)) rfl hl.1 rfl (Nat.le_of_ble_eq_true rfl) dX11_relation_10 ⟨Nat.zero_le _, Nat.zero_le _⟩) hS (fun H locs hP hS => ?_)
    refine lv_icmp_le (tgt := 26) hx hb dX11_relation_13 (by decide) (fun c2 => ?_) (fun c2 => ?_)
    · replace hf := (if_pos c2).symm.trans hf
      refine lv_aload_n hx hb dX11_relation_26 rfl (lv_at hl 0 rfl) ?_
      refine va_get (C := RX11) (T := TX11) (N := 9) hx hb hw bfX110 hown hK hP 0 (gx_0 E g a) rfl 1 (by decide) (hw _ bw541) (fun _ h9 => h9) rfl dX11_relation_27 ?_
      refine va_get (C := RX10) (T := TX10) (N := 4) hx hb hw bfX100 hown hK hP 4 (gx_4 E g a) rfl 0 (by decide) (hw _ bw602) (fun _ h9 => h9) rfl dX11_relation_30 ?_
      refine lv_bipush (v := 8) hx hb dX11_relation_33 (by decide) ?_
      refine lv_icmp_lt (tgt := 48) hx hb dX11_relation_35 (by decide) (fun c3 => ?_) (fun c3 => ?_)
      · replace hf := (if_pos c3).symm.trans hf
        refine lv_aload_n hx hb dX11_relation_48 rfl (lv_at hl 0 rfl) ?_
        refine va_get (C := RX11) (T := TX11) (N := 9) hx hb hw bfX110 hown hK hP 0 (gx_0 E g a) rfl 1 (by decide) (hw _ bw541) (fun _ h9 => h9) rfl dX11_relation_49 ?_
        refine lv_iload_n hx hb dX11_relation_52 rfl (lv_at hl 1 rfl) ?_
        refine lv_iconst (v := 0) hx hb dX11_relation_53 (by decide) ?_
        obtain ⟨u4, e5, hf⟩ := bd_some hf
        refine xci (xRunV (rest := []) (As := [.int v1, .int 0]) (C := RX10) (k := 2) C0 (c_X10_add l E g a v1 0 e5) bw539 bw604 bw115 bw605 bw606 hd_X10_add ⟨Nat.le_of_ble_eq_true rfl, Nat.le_of_ble_eq_true rfl⟩ hP (wX_D hD) hS (va_recv hK hP (ci := 10) rfl (gx_4 E g a)) rfl hl.1 rfl (Nat.le_of_ble_eq_true rfl) dX11_relation_54 ⟨Nat.zero_le _, Nat.zero_le _⟩) hS (fun H locs hP hS => ?_)
        exact xi_retS (fr := (fun r => r.1)) (fw := (fun r => wX E r.2.1 r.2.2)) hx hb hr hlocks (Sum.inr.inj (Option.some.inj hf)) hP hS dX11_relation_57
      · replace hf := (if_neg c3).symm.trans hf
        exact absurd (Option.some.inj hf) (by intro h; cases h)
    · replace hf := (if_neg c2).symm.trans hf
      exact B16 g a _ _ _ hP hS (lv_sub hl [] rfl) hf
set_option maxRecDepth 100000 in
set_option maxHeartbeats 40000000 in
theorem cr_X11_tuple (l : Launch) (E : xE) (g : xG) (a : xA) (v1 : Int32) (v2 : Int32) (v3 : Int32) {res : Int32 × xA} (hf : f_X11_tuple g a v1 v2 v3 = some (.inr res)) : xM l E yX11_tuple cX11_tuple 5 (some .boolean) 2 44 [.ref (E.2.1 0), .int v1, .int v2, .int v3] (wX E g a) (xQi E res.1 (wX E g res.2)) := by
  unfold f_X11_tuple at hf
  refine xM_of (by decide) (Nat.le_of_ble_eq_true rfl) ?_
  intro p e s m below meth c A hx hb hr hml hts hown hlocks hA hD hP hK hN hS ls hl
  have hw : ∀ w ∈ BW, w.before _ s = true := fun w h => hts w (List.mem_cons_of_mem _ h)
  have C0 : xCtx E p m c cX11_tuple 5 s _ RX11 A yX11_tuple cX11_tuple 5 (some .boolean) := ⟨hx, hb, hml, hown, hts, hA, hK, hN⟩
  have hl : lv_has ls 5 [(0, .ref (E.2.1 0)), (1, .int v1), (2, .int v2), (3, .int v3)] := hl
  have B44 : ∀ (a : xA) (H : Heap) (locs : List Loc) (ls : Array Slot), va_P E.1 vwCl (wX E g a) H → va_S A s.heap H locs → lv_has ls 5 [] → f_X11_tuple_44 g a = some (.inr res) → W p l e ({ frames := 2, cells := 0, slots := 0, locals := 44 }) s m ([.ref (E.2.1 0), .int v1, .int v2, .int v3] : List Value).toArray below meth c H locs 0 0 (MQ below ((xQi E res.1 (wX E g res.2)) A) ([.ref (E.2.1 0), .int v1, .int v2, .int v3] : List Value).toArray s 0 0 A) (F0 m 44 ls []) := by
    intro a H locs ls hP hS hl hf
    unfold f_X11_tuple_44 at hf
    exact absurd (Option.some.inj hf) (by intro h; cases h)
  have B90 : ∀ (a : xA) (x2 : Int32) (x4 : Int32) (s0 : Int32) (s1 : Int32) (H : Heap) (locs : List Loc) (ls : Array Slot), va_P E.1 vwCl (wX E g a) H → va_S A s.heap H locs → lv_has ls 5 [(2, .int x2), (4, .int x4)] → f_X11_tuple_90 g a x2 x4 s0 s1 = some (.inr res) → W p l e ({ frames := 2, cells := 0, slots := 0, locals := 44 }) s m ([.ref (E.2.1 0), .int v1, .int v2, .int v3] : List Value).toArray below meth c H locs 0 0 (MQ below ((xQi E res.1 (wX E g res.2)) A) ([.ref (E.2.1 0), .int v1, .int v2, .int v3] : List Value).toArray s 0 0 A) (F0 m 90 ls [.int s0, .int s1, .ref (E.2.1 4)]) := by
    intro a x2 x4 s0 s1 H locs ls hP hS hl hf
    unfold f_X11_tuple_90 at hf
    refine xcv (xRunV (rest := []) (As := [.int s1, .int s0]) (C := RX10) (k := 2) C0 (c_X10_setTuples l E g a s1 s0) bw538 bw613 bw115 bw614 bw615 hd_X10_setTuples ⟨Nat.le_of_ble_eq_true rfl, Nat.le_of_ble_eq_true rfl⟩ hP (wX_D hD) hS (va_recv hK hP (ci := 10) rfl (gx_4 E g a)) rfl hl.1 rfl (Nat.le_of_ble_eq_true rfl) dX11_tuple_90 ⟨Nat.zero_le _, Nat.zero_le _⟩) hS (fun H locs hP hS => ?_)
    refine lv_iload_n hx hb dX11_tuple_93 rfl (lv_at hl 0 rfl) ?_
    refine lv_iload hx hb dX11_tuple_94 (lv_at hl 1 rfl) ?_
    refine xci (xRunS (rest := []) (As := [.int x2, .int x4]) (k := 2) C0 (c_isIn l E (wX E g (t_X10_setTuples g a s1 s0)) x2 x4) bw8 bw616 bw13 bw18 hd_X11_isIn ⟨Nat.le_of_ble_eq_true rfl, Nat.le_of_ble_eq_true rfl⟩ hP (wX_D hD) hS rfl hl.1 rfl (Nat.le_of_ble_eq_true rfl) dX11_tuple_96 ⟨Nat.zero_le _, Nat.zero_le _⟩) hS (fun H locs hP hS => ?_)
    obtain ⟨k5, hf⟩ := ck_some hf
    exact xz_retS (fr := (fun r => r.1)) (fw := (fun r => wX E g r.2)) hx hb hr hlocks (Sum.inr.inj (Option.some.inj hf)) (boB_bo k5) hP hS dX11_tuple_99
  refine lv_aload_n hx hb dX11_tuple_0 rfl (lv_at hl 0 rfl) ?_
  refine va_get (C := RX11) (T := TX11) (N := 9) hx hb hw bfX110 hown hK hP 0 (gx_0 E g a) rfl 1 (by decide) (hw _ bw541) (fun _ h9 => h9) rfl dX11_tuple_1 ?_
  refine lv_iload_n hx hb dX11_tuple_4 rfl (lv_at hl 1 rfl) ?_
  refine xci (xRunV (rest := []) (As := [.int v1]) (C := RX10) (k := 1) C0 (c_X10_isThere l E g a v1) bw107 bw609 bw115 bw113 bw114 hd_X10_isThere ⟨Nat.le_of_ble_eq_true rfl, Nat.le_of_ble_eq_true rfl⟩ hP (wX_D hD) hS (va_recv hK hP (ci := 10) rfl (gx_4 E g a)) rfl hl.1 rfl (Nat.le_of_ble_eq_true rfl) dX11_tuple_5 ⟨Nat.zero_le _, Nat.zero_le _⟩) hS (fun H locs hP hS => ?_)
  refine lv_if_ne (tgt := 21) hx hb dX11_tuple_8 (by decide) (fun c1 => ?_) (fun c1 => ?_)
  · replace hf := (if_neg c1).symm.trans hf
    refine lv_iload_n hx hb dX11_tuple_21 rfl (lv_at hl 2 rfl) ?_
    refine lv_if_lt (tgt := 44) hx hb dX11_tuple_22 (by decide) (fun c2 => ?_) (fun c2 => ?_)
    · replace hf := (if_pos c2).symm.trans hf
      exact B44 a _ _ _ hP hS (lv_sub hl [] rfl) hf
    · replace hf := (if_neg c2).symm.trans hf
      refine lv_iload_n hx hb dX11_tuple_25 rfl (lv_at hl 2 rfl) ?_
      refine lv_aload_n hx hb dX11_tuple_26 rfl (lv_at hl 0 rfl) ?_
      refine va_get (C := RX11) (T := TX11) (N := 9) hx hb hw bfX110 hown hK hP 0 (gx_0 E g a) rfl 0 (by decide) (hw _ bw540) (fun _ h9 => h9) rfl dX11_tuple_27 ?_
      refine lv_aload_n hx hb dX11_tuple_30 rfl (lv_at hl 0 rfl) ?_
      refine va_get (C := RX11) (T := TX11) (N := 9) hx hb hw bfX110 hown hK hP 0 (gx_0 E g a) rfl 1 (by decide) (hw _ bw541) (fun _ h9 => h9) rfl dX11_tuple_31 ?_
      refine lv_iload_n hx hb dX11_tuple_34 rfl (lv_at hl 1 rfl) ?_
      refine xci (xRunV (rest := [.ref (E.2.1 1), .int v2]) (As := [.int v1]) (C := RX10) (k := 1) C0 (c_X10_placesOf l E g a v1) bw117 bw610 bw115 bw133 bw134 hd_X10_placesOf ⟨Nat.le_of_ble_eq_true rfl, Nat.le_of_ble_eq_true rfl⟩ hP (wX_D hD) hS (va_recv hK hP (ci := 10) rfl (gx_4 E g a)) rfl hl.1 rfl (Nat.le_of_ble_eq_true rfl) dX11_tuple_35 ⟨Nat.zero_le _, Nat.zero_le _⟩) hS (fun H locs hP hS => ?_)
      refine xci (xRunV (rest := [.int v2]) (As := [.int (t_X10_placesOf g a v1)]) (C := RX4) (k := 1) C0 (c_X4_power l E g a (t_X10_placesOf g a v1)) bw55 bw611 bw22 bw58 bw59 hd_X4_power ⟨Nat.le_of_ble_eq_true rfl, Nat.le_of_ble_eq_true rfl⟩ hP (wX_D hD) hS (va_recv hK hP (ci := 4) rfl (gx_1 E g a)) rfl hl.1 rfl (Nat.le_of_ble_eq_true rfl) dX11_tuple_38 ⟨Nat.zero_le _, Nat.zero_le _⟩) hS (fun H locs hP hS => ?_)
      refine lv_icmp_lt (tgt := 54) hx hb dX11_tuple_41 (by decide) (fun c3 => ?_) (fun c3 => ?_)
      · replace hf := (if_pos c3).symm.trans hf
        refine lv_aload_n hx hb dX11_tuple_54 rfl (lv_at hl 0 rfl) ?_
        refine va_get (C := RX11) (T := TX11) (N := 9) hx hb hw bfX110 hown hK hP 0 (gx_0 E g a) rfl 1 (by decide) (hw _ bw541) (fun _ h9 => h9) rfl dX11_tuple_55 ?_
        refine lv_iload_n hx hb dX11_tuple_58 rfl (lv_at hl 1 rfl) ?_
        refine xci (xRunV (rest := []) (As := [.int v1]) (C := RX10) (k := 1) C0 (c_X10_tuplesOf l E g a v1) bw176 bw612 bw115 bw180 bw181 hd_X10_tuplesOf ⟨Nat.le_of_ble_eq_true rfl, Nat.le_of_ble_eq_true rfl⟩ hP (wX_D hD) hS (va_recv hK hP (ci := 10) rfl (gx_4 E g a)) rfl hl.1 rfl (Nat.le_of_ble_eq_true rfl) dX11_tuple_59 ⟨Nat.zero_le _, Nat.zero_le _⟩) hS (fun H locs hP hS => ?_)
        refine lv_istore (lv' := [(4, .int (t_X10_tuplesOf g a v1)), (0, .ref (E.2.1 0)), (1, .int v1), (2, .int v2), (3, .int v3)]) hx hb dX11_tuple_62 hl (by decide) rfl (fun ls hl => ?_)
        refine lv_aload_n hx hb dX11_tuple_64 rfl (lv_at hl 1 rfl) ?_
        refine va_get (C := RX11) (T := TX11) (N := 9) hx hb hw bfX110 hown hK hP 0 (gx_0 E g a) rfl 1 (by decide) (hw _ bw541) (fun _ h9 => h9) rfl dX11_tuple_65 ?_
        refine lv_iload_n hx hb dX11_tuple_68 rfl (lv_at hl 2 rfl) ?_
        refine lv_iload_n hx hb dX11_tuple_69 rfl (lv_at hl 4 rfl) ?_
        refine lv_if_eq (tgt := 82) hx hb dX11_tuple_70 (by decide) (fun c4 => ?_) (fun c4 => ?_)
        · replace hf := (if_pos c4).symm.trans hf
          refine lv_iload hx hb dX11_tuple_82 (lv_at hl 0 rfl) ?_
          refine lv_iconst (v := 1) hx hb dX11_tuple_84 (by decide) ?_
          refine lv_iload_n hx hb dX11_tuple_85 rfl (lv_at hl 3 rfl) ?_
          refine lv_ishl hx hb dX11_tuple_86 ?_
          refine lv_iconst (v := (-1)) hx hb dX11_tuple_87 (by decide) ?_
          refine lv_ixor hx hb dX11_tuple_88 ?_
          refine lv_iand hx hb dX11_tuple_89 ?_
          exact B90 a v2 (t_X10_tuplesOf g a v1) ((t_X10_tuplesOf g a v1) &&& (((1 : Int32) <<< (v2 &&& 31)) ^^^ (-1))) v1 _ _ _ hP hS (lv_sub hl [3, 0] rfl) hf
        · replace hf := (if_neg c4).symm.trans hf
          refine lv_iload hx hb dX11_tuple_73 (lv_at hl 0 rfl) ?_
          refine lv_iconst (v := 1) hx hb dX11_tuple_75 (by decide) ?_
          refine lv_iload_n hx hb dX11_tuple_76 rfl (lv_at hl 3 rfl) ?_
          refine lv_ishl hx hb dX11_tuple_77 ?_
          refine lv_ior hx hb dX11_tuple_78 ?_
          refine lv_goto (tgt := 90) hx hb dX11_tuple_79 (by decide) ?_
          exact B90 a v2 (t_X10_tuplesOf g a v1) ((t_X10_tuplesOf g a v1) ||| ((1 : Int32) <<< (v2 &&& 31))) v1 _ _ _ hP hS (lv_sub hl [3, 0] rfl) hf
      · replace hf := (if_neg c3).symm.trans hf
        exact B44 a _ _ _ hP hS (lv_sub hl [] rfl) hf
  · replace hf := (if_pos c1).symm.trans hf
    exact absurd (Option.some.inj hf) (by intro h; cases h)
set_option maxRecDepth 100000 in
set_option maxHeartbeats 40000000 in
theorem cr_X11_ofRelation (l : Launch) (E : xE) (g : xG) (a : xA) (v1 : Int32) (v2 : Int32) {res : Int32} (hf : f_X11_ofRelation g a v1 v2 = some (.inr res)) : xM l E yX11_ofRelation cX11_ofRelation 3 (some .int) 2 42 [.ref (E.2.1 0), .int v1, .int v2] (wX E g a) (xQi E res (wX E g a)) := by
  unfold f_X11_ofRelation at hf
  refine xM_of (by decide) (Nat.le_of_ble_eq_true rfl) ?_
  intro p e s m below meth c A hx hb hr hml hts hown hlocks hA hD hP hK hN hS ls hl
  have hw : ∀ w ∈ BW, w.before _ s = true := fun w h => hts w (List.mem_cons_of_mem _ h)
  have C0 : xCtx E p m c cX11_ofRelation 3 s _ RX11 A yX11_ofRelation cX11_ofRelation 3 (some .int) := ⟨hx, hb, hml, hown, hts, hA, hK, hN⟩
  have hl : lv_has ls 3 [(0, .ref (E.2.1 0)), (1, .int v1), (2, .int v2)] := hl
  refine lv_aload_n hx hb dX11_ofRelation_0 rfl (lv_at hl 0 rfl) ?_
  refine va_get (C := RX11) (T := TX11) (N := 9) hx hb hw bfX110 hown hK hP 0 (gx_0 E g a) rfl 1 (by decide) (hw _ bw541) (fun _ h9 => h9) rfl dX11_ofRelation_1 ?_
  refine lv_iload_n hx hb dX11_ofRelation_4 rfl (lv_at hl 1 rfl) ?_
  refine xci (xRunV (rest := []) (As := [.int v1]) (C := RX10) (k := 1) C0 (c_X10_isThere l E g a v1) bw107 bw609 bw115 bw113 bw114 hd_X10_isThere ⟨Nat.le_of_ble_eq_true rfl, Nat.le_of_ble_eq_true rfl⟩ hP (wX_D hD) hS (va_recv hK hP (ci := 10) rfl (gx_4 E g a)) rfl hl.1 rfl (Nat.le_of_ble_eq_true rfl) dX11_ofRelation_5 ⟨Nat.zero_le _, Nat.zero_le _⟩) hS (fun H locs hP hS => ?_)
  refine lv_if_ne (tgt := 21) hx hb dX11_ofRelation_8 (by decide) (fun c1 => ?_) (fun c1 => ?_)
  · replace hf := (if_neg c1).symm.trans hf
    refine lv_iload_n hx hb dX11_ofRelation_21 rfl (lv_at hl 2 rfl) ?_
    by_cases c2 : v2 = 0
    · replace hf := (if_pos c2).symm.trans hf
      refine lv_tableIn (tgt := 48) (off := 26) hx hb dX11_ofRelation_22 (by rw [c2]; decide) (by rw [c2]; decide) (by rw [c2]; rfl) (by decide) ?_
      refine lv_aload_n hx hb dX11_ofRelation_48 rfl (lv_at hl 0 rfl) ?_
      refine va_get (C := RX11) (T := TX11) (N := 9) hx hb hw bfX110 hown hK hP 0 (gx_0 E g a) rfl 1 (by decide) (hw _ bw541) (fun _ h9 => h9) rfl dX11_ofRelation_49 ?_
      refine lv_iload_n hx hb dX11_ofRelation_52 rfl (lv_at hl 1 rfl) ?_
      refine xci (xRunV (rest := []) (As := [.int v1]) (C := RX10) (k := 1) C0 (c_X10_placesOf l E g a v1) bw117 bw610 bw115 bw133 bw134 hd_X10_placesOf ⟨Nat.le_of_ble_eq_true rfl, Nat.le_of_ble_eq_true rfl⟩ hP (wX_D hD) hS (va_recv hK hP (ci := 10) rfl (gx_4 E g a)) rfl hl.1 rfl (Nat.le_of_ble_eq_true rfl) dX11_ofRelation_53 ⟨Nat.zero_le _, Nat.zero_le _⟩) hS (fun H locs hP hS => ?_)
      exact xi_retS (fr := (fun r => r)) (fw := (fun r => wX E g a)) hx hb hr hlocks (Sum.inr.inj (Option.some.inj hf)) hP hS dX11_ofRelation_56
    · replace hf := (if_neg c2).symm.trans hf
      by_cases c3 : v2 = 1
      · replace hf := (if_pos c3).symm.trans hf
        refine lv_tableIn (tgt := 57) (off := 35) hx hb dX11_ofRelation_22 (by rw [c3]; decide) (by rw [c3]; decide) (by rw [c3]; rfl) (by decide) ?_
        refine lv_aload_n hx hb dX11_ofRelation_57 rfl (lv_at hl 0 rfl) ?_
        refine va_get (C := RX11) (T := TX11) (N := 9) hx hb hw bfX110 hown hK hP 0 (gx_0 E g a) rfl 1 (by decide) (hw _ bw541) (fun _ h9 => h9) rfl dX11_ofRelation_58 ?_
        refine lv_iload_n hx hb dX11_ofRelation_61 rfl (lv_at hl 1 rfl) ?_
        refine xci (xRunV (rest := []) (As := [.int v1]) (C := RX10) (k := 1) C0 (c_X10_tuplesOf l E g a v1) bw176 bw612 bw115 bw180 bw181 hd_X10_tuplesOf ⟨Nat.le_of_ble_eq_true rfl, Nat.le_of_ble_eq_true rfl⟩ hP (wX_D hD) hS (va_recv hK hP (ci := 10) rfl (gx_4 E g a)) rfl hl.1 rfl (Nat.le_of_ble_eq_true rfl) dX11_ofRelation_62 ⟨Nat.zero_le _, Nat.zero_le _⟩) hS (fun H locs hP hS => ?_)
        exact xi_retS (fr := (fun r => r)) (fw := (fun r => wX E g a)) hx hb hr hlocks (Sum.inr.inj (Option.some.inj hf)) hP hS dX11_ofRelation_65
      · replace hf := (if_neg c3).symm.trans hf
        by_cases c4 : v2 = 2
        · replace hf := (if_pos c4).symm.trans hf
          refine lv_tableIn (tgt := 66) (off := 44) hx hb dX11_ofRelation_22 (by rw [c4]; decide) (by rw [c4]; decide) (by rw [c4]; rfl) (by decide) ?_
          refine lv_aload_n hx hb dX11_ofRelation_66 rfl (lv_at hl 0 rfl) ?_
          refine va_get (C := RX11) (T := TX11) (N := 9) hx hb hw bfX110 hown hK hP 0 (gx_0 E g a) rfl 1 (by decide) (hw _ bw541) (fun _ h9 => h9) rfl dX11_ofRelation_67 ?_
          refine lv_iload_n hx hb dX11_ofRelation_70 rfl (lv_at hl 1 rfl) ?_
          refine xci (xRunV (rest := []) (As := [.int v1]) (C := RX10) (k := 1) C0 (c_X10_tuplesOf l E g a v1) bw176 bw612 bw115 bw180 bw181 hd_X10_tuplesOf ⟨Nat.le_of_ble_eq_true rfl, Nat.le_of_ble_eq_true rfl⟩ hP (wX_D hD) hS (va_recv hK hP (ci := 10) rfl (gx_4 E g a)) rfl hl.1 rfl (Nat.le_of_ble_eq_true rfl) dX11_ofRelation_71 ⟨Nat.zero_le _, Nat.zero_le _⟩) hS (fun H locs hP hS => ?_)
          refine xci (xRunS (rest := []) (As := [.int (t_X10_tuplesOf g a v1)]) (k := 1) C0 (c_J6_bitCount_0f7a4 l E g a (t_X10_tuplesOf g a v1)) bw355 bw618 bw362 bw361 hd_J6_bitCount_0f7a4 ⟨Nat.le_of_ble_eq_true rfl, Nat.le_of_ble_eq_true rfl⟩ hP (wX_D hD) hS rfl hl.1 rfl (Nat.le_of_ble_eq_true rfl) dX11_ofRelation_74 ⟨Nat.zero_le _, Nat.zero_le _⟩) hS (fun H locs hP hS => ?_)
          exact xi_retS (fr := (fun r => r)) (fw := (fun r => wX E g a)) hx hb hr hlocks (Sum.inr.inj (Option.some.inj hf)) hP hS dX11_ofRelation_77
        · replace hf := (if_neg c4).symm.trans hf
          refine lv_tableOut (tgt := 78) hx hb dX11_ofRelation_22 (by have h9 := tsw0 (x := v2) 3 (by decide) (by intro i hi; match i, hi with | 0, _ => exact c2 | 1, _ => exact c3 | 2, _ => exact c4); omega) (by decide) ?_
          exact absurd (Option.some.inj hf) (by intro h; cases h)
  · replace hf := (if_pos c1).symm.trans hf
    exact absurd (Option.some.inj hf) (by intro h; cases h)
set_option maxRecDepth 100000 in
set_option maxHeartbeats 40000000 in
theorem cr_X11_operation (l : Launch) (E : xE) (g : xG) (a : xA) (v1 : Int32) {res : Int32 × xG × xA} (hf : f_X11_operation g a v1 = some (.inr res)) : xM l E yX11_operation cX11_operation 2 (some .int) 5 107 [.ref (E.2.1 0), .int v1] (wX E g a) (xQi E res.1 (wX E res.2.1 res.2.2)) := by
  unfold f_X11_operation at hf
  refine xM_of (by decide) (Nat.le_of_ble_eq_true rfl) ?_
  intro p e s m below meth c A hx hb hr hml hts hown hlocks hA hD hP hK hN hS ls hl
  have hw : ∀ w ∈ BW, w.before _ s = true := fun w h => hts w (List.mem_cons_of_mem _ h)
  have C0 : xCtx E p m c cX11_operation 2 s _ RX11 A yX11_operation cX11_operation 2 (some .int) := ⟨hx, hb, hml, hown, hts, hA, hK, hN⟩
  have hl : lv_has ls 2 [(0, .ref (E.2.1 0)), (1, .int v1)] := hl
  have B10 : ∀ (g : xG) (a : xA) (H : Heap) (locs : List Loc) (ls : Array Slot), va_P E.1 vwCl (wX E g a) H → va_S A s.heap H locs → lv_has ls 2 [] → f_X11_operation_10 g a = some (.inr res) → W p l e ({ frames := 5, cells := 0, slots := 0, locals := 107 }) s m ([.ref (E.2.1 0), .int v1] : List Value).toArray below meth c H locs 0 0 (MQ below ((xQi E res.1 (wX E res.2.1 res.2.2)) A) ([.ref (E.2.1 0), .int v1] : List Value).toArray s 0 0 A) (F0 m 10 ls []) := by
    intro g a H locs ls hP hS hl hf
    unfold f_X11_operation_10 at hf
    exact absurd (Option.some.inj hf) (by intro h; cases h)
  refine lv_iload_n hx hb dX11_operation_0 rfl (lv_at hl 1 rfl) ?_
  refine lv_iconst (v := 1) hx hb dX11_operation_1 (by decide) ?_
  refine lv_icmp_lt (tgt := 10) hx hb dX11_operation_2 (by decide) (fun c1 => ?_) (fun c1 => ?_)
  · replace hf := (if_pos c1).symm.trans hf
    exact B10 g a _ _ _ hP hS (lv_sub hl [] rfl) hf
  · replace hf := (if_neg c1).symm.trans hf
    refine lv_iload_n hx hb dX11_operation_5 rfl (lv_at hl 1 rfl) ?_
    refine lv_iconst (v := 3) hx hb dX11_operation_6 (by decide) ?_
    refine lv_icmp_le (tgt := 20) hx hb dX11_operation_7 (by decide) (fun c2 => ?_) (fun c2 => ?_)
    · replace hf := (if_pos c2).symm.trans hf
      refine lv_aload_n hx hb dX11_operation_20 rfl (lv_at hl 0 rfl) ?_
      refine va_get (C := RX11) (T := TX11) (N := 9) hx hb hw bfX110 hown hK hP 0 (gx_0 E g a) rfl 3 (by decide) (hw _ bw542) (fun _ h9 => h9) rfl dX11_operation_21 ?_
      refine va_get (C := RX6) (T := TX6) (N := 5) hx hb hw bfX60 hown hK hP 10 (gx_10 E g a) rfl 0 (by decide) (hw _ bw543) (fun _ h9 => h9) rfl dX11_operation_24 ?_
      refine lv_bipush (v := 6) hx hb dX11_operation_27 (by decide) ?_
      refine lv_icmp_lt (tgt := 42) hx hb dX11_operation_29 (by decide) (fun c3 => ?_) (fun c3 => ?_)
      · replace hf := (if_pos c3).symm.trans hf
        refine lv_aload_n hx hb dX11_operation_42 rfl (lv_at hl 0 rfl) ?_
        refine va_get (C := RX11) (T := TX11) (N := 9) hx hb hw bfX110 hown hK hP 0 (gx_0 E g a) rfl 3 (by decide) (hw _ bw542) (fun _ h9 => h9) rfl dX11_operation_43 ?_
        refine lv_iload_n hx hb dX11_operation_46 rfl (lv_at hl 1 rfl) ?_
        obtain ⟨u4, e5, hf⟩ := bd_some hf
        refine xci (xRunV (rest := []) (As := [.int v1]) (C := RX6) (k := 1) C0 (c_X6_add l E g a v1 e5) bw452 bw620 bw450 bw621 bw622 hd_X6_add ⟨Nat.le_of_ble_eq_true rfl, Nat.le_of_ble_eq_true rfl⟩ hP (wX_D hD) hS (va_recv hK hP (ci := 6) rfl (gx_10 E g a)) rfl hl.1 rfl (Nat.le_of_ble_eq_true rfl) dX11_operation_47 ⟨Nat.zero_le _, Nat.zero_le _⟩) hS (fun H locs hP hS => ?_)
        exact xi_retS (fr := (fun r => r.1)) (fw := (fun r => wX E r.2.1 r.2.2)) hx hb hr hlocks (Sum.inr.inj (Option.some.inj hf)) hP hS dX11_operation_50
      · replace hf := (if_neg c3).symm.trans hf
        exact absurd (Option.some.inj hf) (by intro h; cases h)
    · replace hf := (if_neg c2).symm.trans hf
      exact B10 g a _ _ _ hP hS (lv_sub hl [] rfl) hf
set_option maxRecDepth 100000 in
set_option maxHeartbeats 40000000 in
theorem cr_X11_make (l : Launch) (E : xE) (g : xG) (a : xA) (v1 : Int32) {res : Int32 × xG × xA} (hf : f_X11_make g a v1 = some (.inr res)) : xM l E yX11_make cX11_make 2 (some .int) 6 132 [.ref (E.2.1 0), .int v1] (wX E g a) (xQi E res.1 (wX E res.2.1 res.2.2)) := by
  unfold f_X11_make at hf
  refine xM_of (by decide) (Nat.le_of_ble_eq_true rfl) ?_
  intro p e s m below meth c A hx hb hr hml hts hown hlocks hA hD hP hK hN hS ls hl
  have hw : ∀ w ∈ BW, w.before _ s = true := fun w h => hts w (List.mem_cons_of_mem _ h)
  have C0 : xCtx E p m c cX11_make 2 s _ RX11 A yX11_make cX11_make 2 (some .int) := ⟨hx, hb, hml, hown, hts, hA, hK, hN⟩
  have hl : lv_has ls 2 [(0, .ref (E.2.1 0)), (1, .int v1)] := hl
  have B9 : ∀ (g : xG) (a : xA) (H : Heap) (locs : List Loc) (ls : Array Slot), va_P E.1 vwCl (wX E g a) H → va_S A s.heap H locs → lv_has ls 2 [] → f_X11_make_9 g a = some (.inr res) → W p l e ({ frames := 6, cells := 0, slots := 0, locals := 132 }) s m ([.ref (E.2.1 0), .int v1] : List Value).toArray below meth c H locs 0 0 (MQ below ((xQi E res.1 (wX E res.2.1 res.2.2)) A) ([.ref (E.2.1 0), .int v1] : List Value).toArray s 0 0 A) (F0 m 9 ls []) := by
    intro g a H locs ls hP hS hl hf
    unfold f_X11_make_9 at hf
    exact absurd (Option.some.inj hf) (by intro h; cases h)
  refine lv_iload_n hx hb dX11_make_0 rfl (lv_at hl 1 rfl) ?_
  refine lv_if_lt (tgt := 9) hx hb dX11_make_1 (by decide) (fun c1 => ?_) (fun c1 => ?_)
  · replace hf := (if_pos c1).symm.trans hf
    exact B9 g a _ _ _ hP hS (lv_sub hl [] rfl) hf
  · replace hf := (if_neg c1).symm.trans hf
    refine lv_iload_n hx hb dX11_make_4 rfl (lv_at hl 1 rfl) ?_
    refine lv_iconst (v := 4) hx hb dX11_make_5 (by decide) ?_
    refine lv_icmp_le (tgt := 19) hx hb dX11_make_6 (by decide) (fun c2 => ?_) (fun c2 => ?_)
    · replace hf := (if_pos c2).symm.trans hf
      refine lv_aload_n hx hb dX11_make_19 rfl (lv_at hl 0 rfl) ?_
      refine va_get (C := RX11) (T := TX11) (N := 9) hx hb hw bfX110 hown hK hP 0 (gx_0 E g a) rfl 3 (by decide) (hw _ bw542) (fun _ h9 => h9) rfl dX11_make_20 ?_
      refine va_get (C := RX6) (T := TX6) (N := 5) hx hb hw bfX60 hown hK hP 10 (gx_10 E g a) rfl 0 (by decide) (hw _ bw543) (fun _ h9 => h9) rfl dX11_make_23 ?_
      refine lv_bipush (v := 6) hx hb dX11_make_26 (by decide) ?_
      refine lv_icmp_lt (tgt := 41) hx hb dX11_make_28 (by decide) (fun c3 => ?_) (fun c3 => ?_)
      · replace hf := (if_pos c3).symm.trans hf
        refine lv_aload_n hx hb dX11_make_41 rfl (lv_at hl 0 rfl) ?_
        refine va_get (C := RX11) (T := TX11) (N := 9) hx hb hw bfX110 hown hK hP 0 (gx_0 E g a) rfl 3 (by decide) (hw _ bw542) (fun _ h9 => h9) rfl dX11_make_42 ?_
        refine lv_iload_n hx hb dX11_make_45 rfl (lv_at hl 1 rfl) ?_
        obtain ⟨u4, e5, hf⟩ := bd_some hf
        refine xci (xRunV (rest := []) (As := [.int v1]) (C := RX6) (k := 1) C0 (c_X6_addMade l E g a v1 e5) bw454 bw624 bw450 bw625 bw626 hd_X6_addMade ⟨Nat.le_of_ble_eq_true rfl, Nat.le_of_ble_eq_true rfl⟩ hP (wX_D hD) hS (va_recv hK hP (ci := 6) rfl (gx_10 E g a)) rfl hl.1 rfl (Nat.le_of_ble_eq_true rfl) dX11_make_46 ⟨Nat.zero_le _, Nat.zero_le _⟩) hS (fun H locs hP hS => ?_)
        exact xi_retS (fr := (fun r => r.1)) (fw := (fun r => wX E r.2.1 r.2.2)) hx hb hr hlocks (Sum.inr.inj (Option.some.inj hf)) hP hS dX11_make_49
      · replace hf := (if_neg c3).symm.trans hf
        exact absurd (Option.some.inj hf) (by intro h; cases h)
    · replace hf := (if_neg c2).symm.trans hf
      exact B9 g a _ _ _ hP hS (lv_sub hl [] rfl) hf
set_option maxRecDepth 100000 in
set_option maxHeartbeats 40000000 in
theorem cr_X11_answers (l : Launch) (E : xE) (g : xG) (a : xA) (v1 : Int32) (v2 : Int32) (v3 : Int32) {res : Int32 × xA} (hf : f_X11_answers g a v1 v2 v3 = some (.inr res)) : xM l E yX11_answers cX11_answers 6 (some .int) 3 62 [.ref (E.2.1 0), .int v1, .int v2, .int v3] (wX E g a) (xQi E res.1 (wX E g res.2)) := by
  unfold f_X11_answers at hf
  refine xM_of (by decide) (Nat.le_of_ble_eq_true rfl) ?_
  intro p e s m below meth c A hx hb hr hml hts hown hlocks hA hD hP hK hN hS ls hl
  have hw : ∀ w ∈ BW, w.before _ s = true := fun w h => hts w (List.mem_cons_of_mem _ h)
  have C0 : xCtx E p m c cX11_answers 6 s _ RX11 A yX11_answers cX11_answers 6 (some .int) := ⟨hx, hb, hml, hown, hts, hA, hK, hN⟩
  have hl : lv_has ls 6 [(0, .ref (E.2.1 0)), (1, .int v1), (2, .int v2), (3, .int v3)] := hl
  have B38 : ∀ (a : xA) (H : Heap) (locs : List Loc) (ls : Array Slot), va_P E.1 vwCl (wX E g a) H → va_S A s.heap H locs → lv_has ls 6 [] → f_X11_answers_38 g a = some (.inr res) → W p l e ({ frames := 3, cells := 0, slots := 0, locals := 62 }) s m ([.ref (E.2.1 0), .int v1, .int v2, .int v3] : List Value).toArray below meth c H locs 0 0 (MQ below ((xQi E res.1 (wX E g res.2)) A) ([.ref (E.2.1 0), .int v1, .int v2, .int v3] : List Value).toArray s 0 0 A) (F0 m 38 ls []) := by
    intro a H locs ls hP hS hl hf
    unfold f_X11_answers_38 at hf
    exact absurd (Option.some.inj hf) (by intro h; cases h)
  have B63 : ∀ (a : xA) (H : Heap) (locs : List Loc) (ls : Array Slot), va_P E.1 vwCl (wX E g a) H → va_S A s.heap H locs → lv_has ls 6 [] → f_X11_answers_63 g a = some (.inr res) → W p l e ({ frames := 3, cells := 0, slots := 0, locals := 62 }) s m ([.ref (E.2.1 0), .int v1, .int v2, .int v3] : List Value).toArray below meth c H locs 0 0 (MQ below ((xQi E res.1 (wX E g res.2)) A) ([.ref (E.2.1 0), .int v1, .int v2, .int v3] : List Value).toArray s 0 0 A) (F0 m 63 ls []) := by
    intro a H locs ls hP hS hl hf
    unfold f_X11_answers_63 at hf
    exact absurd (Option.some.inj hf) (by intro h; cases h)
  refine lv_aload_n hx hb dX11_answers_0 rfl (lv_at hl 0 rfl) ?_
  refine va_get (C := RX11) (T := TX11) (N := 9) hx hb hw bfX110 hown hK hP 0 (gx_0 E g a) rfl 3 (by decide) (hw _ bw542) (fun _ h9 => h9) rfl dX11_answers_1 ?_
  refine lv_iload_n hx hb dX11_answers_4 rfl (lv_at hl 1 rfl) ?_
  rcases q1 : (getF (g 4) v1) with _ | k2
  · replace hf := (om_none q1).symm.trans hf
    refine xcq (xRunV (rest := []) (As := [.int v1]) (C := RX6) (k := 1) C0 (c_X6_getN l E g a v1 q1) bw445 bw628 bw450 bw448 bw449 hd_X6_get ⟨Nat.le_of_ble_eq_true rfl, Nat.le_of_ble_eq_true rfl⟩ hP (wX_D hD) hS (va_recv hK hP (ci := 6) rfl (gx_10 E g a)) rfl hl.1 rfl (Nat.le_of_ble_eq_true rfl) dX11_answers_5 ⟨Nat.zero_le _, Nat.zero_le _⟩) hS (fun H locs hP hS => ?_)
    refine lv_astoreN (lv' := [(4, .null), (0, .ref (E.2.1 0)), (1, .int v1), (2, .int v2), (3, .int v3)]) hx hb dX11_answers_8 hl (by decide) rfl (fun ls hl => ?_)
    refine lv_aloadN hx hb dX11_answers_10 (lv_at hl 0 rfl) ?_
    refine lv_ifnonnullN hx hb dX11_answers_12 ?_
    exact absurd (Option.some.inj hf) (by intro h; cases h)
  · replace hf := (om_some q1).symm.trans hf
    have hk2 := getF_lt q1
    refine xcq (xRunV (rest := []) (As := [.int v1]) (C := RX6) (k := 1) C0 (c_X6_getS l E g a v1 q1) bw445 bw628 bw450 bw448 bw449 hd_X6_get ⟨Nat.le_of_ble_eq_true rfl, Nat.le_of_ble_eq_true rfl⟩ hP (wX_D hD) hS (va_recv hK hP (ci := 6) rfl (gx_10 E g a)) rfl hl.1 rfl (Nat.le_of_ble_eq_true rfl) dX11_answers_5 ⟨Nat.zero_le _, Nat.zero_le _⟩) hS (fun H locs hP hS => ?_)
    refine lv_astore (lv' := [(4, .ref (E.2.1 (40 + k2))), (0, .ref (E.2.1 0)), (1, .int v1), (2, .int v2), (3, .int v3)]) hx hb dX11_answers_8 hl (by decide) rfl (fun ls hl => ?_)
    refine lv_aload hx hb dX11_answers_10 (lv_at hl 0 rfl) ?_
    refine lv_ifnonnull (tgt := 25) hx hb dX11_answers_12 (by decide) ?_
    refine lv_iload_n hx hb dX11_answers_25 rfl (lv_at hl 3 rfl) ?_
    refine lv_if_lt (tgt := 38) hx hb dX11_answers_26 (by decide) (fun c3 => ?_) (fun c3 => ?_)
    · replace hf := (if_pos c3).symm.trans hf
      exact B38 a _ _ _ hP hS (lv_sub hl [] rfl) hf
    · replace hf := (if_neg c3).symm.trans hf
      refine lv_iload_n hx hb dX11_answers_29 rfl (lv_at hl 3 rfl) ?_
      refine lv_aload hx hb dX11_answers_30 (lv_at hl 0 rfl) ?_
      refine xci (xRunV (rest := [.int v2]) (As := []) (C := RX5) (k := 0) C0 (c_X5_points l E k2 hk2 g a) bw278 bw629 bw44 bw282 bw283 hd_X5_points ⟨Nat.le_of_ble_eq_true rfl, Nat.le_of_ble_eq_true rfl⟩ hP (wX_D hD) hS (va_recv hK hP (ci := 5) rfl (gx_op E g a k2 hk2)) rfl hl.1 rfl (Nat.le_of_ble_eq_true rfl) dX11_answers_32 ⟨Nat.zero_le _, Nat.zero_le _⟩) hS (fun H locs hP hS => ?_)
      refine lv_icmp_lt (tgt := 48) hx hb dX11_answers_35 (by decide) (fun c4 => ?_) (fun c4 => ?_)
      · replace hf := (if_pos c4).symm.trans hf
        refine lv_iload_n hx hb dX11_answers_48 rfl (lv_at hl 4 rfl) ?_
        refine lv_if_lt (tgt := 63) hx hb dX11_answers_49 (by decide) (fun c5 => ?_) (fun c5 => ?_)
        · replace hf := (if_pos c5).symm.trans hf
          exact B63 a _ _ _ hP hS (lv_sub hl [] rfl) hf
        · replace hf := (if_neg c5).symm.trans hf
          refine lv_iload_n hx hb dX11_answers_52 rfl (lv_at hl 4 rfl) ?_
          refine lv_aload_n hx hb dX11_answers_53 rfl (lv_at hl 1 rfl) ?_
          refine va_get (C := RX11) (T := TX11) (N := 9) hx hb hw bfX110 hown hK hP 0 (gx_0 E g a) rfl 0 (by decide) (hw _ bw540) (fun _ h9 => h9) rfl dX11_answers_54 ?_
          refine va_get (C := RX4) (T := TX4) (N := 3) hx hb hw bfX40 hown hK hP 1 (gx_1 E g a) rfl 0 (by decide) (hw _ bw597) (fun _ h9 => h9) rfl dX11_answers_57 ?_
          refine lv_icmp_lt (tgt := 73) hx hb dX11_answers_60 (by decide) (fun c6 => ?_) (fun c6 => ?_)
          · replace hf := (if_pos c6).symm.trans hf
            refine lv_aload hx hb dX11_answers_73 (lv_at hl 0 rfl) ?_
            refine lv_iload_n hx hb dX11_answers_75 rfl (lv_at hl 3 rfl) ?_
            refine xci (xRunV (rest := []) (As := [.int v2]) (C := RX5) (k := 1) C0 (c_X5_answerAt l E k2 hk2 g a v2) bw289 bw630 bw44 bw292 bw293 hd_X5_answerAt ⟨Nat.le_of_ble_eq_true rfl, Nat.le_of_ble_eq_true rfl⟩ hP (wX_D hD) hS (va_recv hK hP (ci := 5) rfl (gx_op E g a k2 hk2)) rfl hl.1 rfl (Nat.le_of_ble_eq_true rfl) dX11_answers_76 ⟨Nat.zero_le _, Nat.zero_le _⟩) hS (fun H locs hP hS => ?_)
            refine lv_istore (lv' := [(5, .int (t_X5_answerAt k2 g a v2)), (4, .ref (E.2.1 (40 + k2))), (0, .ref (E.2.1 0)), (1, .int v1), (2, .int v2), (3, .int v3)]) hx hb dX11_answers_79 hl (by decide) rfl (fun ls hl => ?_)
            refine lv_aload hx hb dX11_answers_81 (lv_at hl 1 rfl) ?_
            refine lv_iload_n hx hb dX11_answers_83 rfl (lv_at hl 4 rfl) ?_
            refine lv_iload_n hx hb dX11_answers_84 rfl (lv_at hl 5 rfl) ?_
            refine xcv (xRunV (rest := []) (As := [.int v2, .int v3]) (C := RX5) (k := 2) C0 (c_X5_setAnswer l E k2 hk2 g a v2 v3) bw280 bw631 bw44 bw286 bw287 hd_X5_setAnswer ⟨Nat.le_of_ble_eq_true rfl, Nat.le_of_ble_eq_true rfl⟩ hP (wX_D hD) hS (va_recv hK hP (ci := 5) rfl (gx_op E g a k2 hk2)) rfl hl.1 rfl (Nat.le_of_ble_eq_true rfl) dX11_answers_85 ⟨Nat.zero_le _, Nat.zero_le _⟩) hS (fun H locs hP hS => ?_)
            refine lv_iload hx hb dX11_answers_88 (lv_at hl 0 rfl) ?_
            exact xi_retS (fr := (fun r => r.1)) (fw := (fun r => wX E g r.2)) hx hb hr hlocks (Sum.inr.inj (Option.some.inj hf)) hP hS dX11_answers_90
          · replace hf := (if_neg c6).symm.trans hf
            exact B63 a _ _ _ hP hS (lv_sub hl [] rfl) hf
      · replace hf := (if_neg c4).symm.trans hf
        exact B38 a _ _ _ hP hS (lv_sub hl [] rfl) hf
set_option maxRecDepth 100000 in
set_option maxHeartbeats 40000000 in
theorem cr_X11_keeps (l : Launch) (E : xE) (g : xG) (a : xA) (v1 : Int32) (v2 : Int32) {res : Int32 × xG × xA} (hf : f_X11_keeps g a v1 v2 = some (.inr res)) : xM l E yX11_keeps cX11_keeps 4 (some .boolean) 5 115 [.ref (E.2.1 0), .int v1, .int v2] (wX E g a) (xQi E res.1 (wX E res.2.1 res.2.2)) := by
  unfold f_X11_keeps at hf
  refine xM_of (by decide) (Nat.le_of_ble_eq_true rfl) ?_
  intro p e s m below meth c A hx hb hr hml hts hown hlocks hA hD hP hK hN hS ls hl
  have hw : ∀ w ∈ BW, w.before _ s = true := fun w h => hts w (List.mem_cons_of_mem _ h)
  have C0 : xCtx E p m c cX11_keeps 4 s _ RX11 A yX11_keeps cX11_keeps 4 (some .boolean) := ⟨hx, hb, hml, hown, hts, hA, hK, hN⟩
  have hl : lv_has ls 4 [(0, .ref (E.2.1 0)), (1, .int v1), (2, .int v2)] := hl
  have B24 : ∀ (g : xG) (a : xA) (H : Heap) (locs : List Loc) (ls : Array Slot), va_P E.1 vwCl (wX E g a) H → va_S A s.heap H locs → lv_has ls 4 [] → f_X11_keeps_24 g a = some (.inr res) → W p l e ({ frames := 5, cells := 0, slots := 0, locals := 115 }) s m ([.ref (E.2.1 0), .int v1, .int v2] : List Value).toArray below meth c H locs 0 0 (MQ below ((xQi E res.1 (wX E res.2.1 res.2.2)) A) ([.ref (E.2.1 0), .int v1, .int v2] : List Value).toArray s 0 0 A) (F0 m 24 ls []) := by
    intro g a H locs ls hP hS hl hf
    unfold f_X11_keeps_24 at hf
    exact absurd (Option.some.inj hf) (by intro h; cases h)
  refine lv_aload_n hx hb dX11_keeps_0 rfl (lv_at hl 0 rfl) ?_
  refine va_get (C := RX11) (T := TX11) (N := 9) hx hb hw bfX110 hown hK hP 0 (gx_0 E g a) rfl 3 (by decide) (hw _ bw542) (fun _ h9 => h9) rfl dX11_keeps_1 ?_
  refine lv_iload_n hx hb dX11_keeps_4 rfl (lv_at hl 1 rfl) ?_
  rcases q1 : (getF (g 4) v1) with _ | k2
  · replace hf := (om_none q1).symm.trans hf
    refine xcq (xRunV (rest := []) (As := [.int v1]) (C := RX6) (k := 1) C0 (c_X6_getN l E g a v1 q1) bw445 bw628 bw450 bw448 bw449 hd_X6_get ⟨Nat.le_of_ble_eq_true rfl, Nat.le_of_ble_eq_true rfl⟩ hP (wX_D hD) hS (va_recv hK hP (ci := 6) rfl (gx_10 E g a)) rfl hl.1 rfl (Nat.le_of_ble_eq_true rfl) dX11_keeps_5 ⟨Nat.zero_le _, Nat.zero_le _⟩) hS (fun H locs hP hS => ?_)
    refine lv_astore_nN (lv' := [(3, .null), (0, .ref (E.2.1 0)), (1, .int v1), (2, .int v2)]) hx hb dX11_keeps_8 rfl hl (by decide) rfl (fun ls hl => ?_)
    refine lv_aload_nN hx hb dX11_keeps_9 rfl (lv_at hl 0 rfl) ?_
    refine lv_ifnullN (tgt := 24) hx hb dX11_keeps_10 (by decide) ?_
    exact B24 g a _ _ _ hP hS (lv_sub hl [] rfl) hf
  · replace hf := (om_some q1).symm.trans hf
    have hk2 := getF_lt q1
    refine xcq (xRunV (rest := []) (As := [.int v1]) (C := RX6) (k := 1) C0 (c_X6_getS l E g a v1 q1) bw445 bw628 bw450 bw448 bw449 hd_X6_get ⟨Nat.le_of_ble_eq_true rfl, Nat.le_of_ble_eq_true rfl⟩ hP (wX_D hD) hS (va_recv hK hP (ci := 6) rfl (gx_10 E g a)) rfl hl.1 rfl (Nat.le_of_ble_eq_true rfl) dX11_keeps_5 ⟨Nat.zero_le _, Nat.zero_le _⟩) hS (fun H locs hP hS => ?_)
    refine lv_astore_n (lv' := [(3, .ref (E.2.1 (40 + k2))), (0, .ref (E.2.1 0)), (1, .int v1), (2, .int v2)]) hx hb dX11_keeps_8 rfl hl (by decide) rfl (fun ls hl => ?_)
    refine lv_aload_n hx hb dX11_keeps_9 rfl (lv_at hl 0 rfl) ?_
    refine lv_ifnull hx hb dX11_keeps_10 ?_
    refine lv_aload_n hx hb dX11_keeps_13 rfl (lv_at hl 1 rfl) ?_
    refine va_get (C := RX11) (T := TX11) (N := 9) hx hb hw bfX110 hown hK hP 0 (gx_0 E g a) rfl 1 (by decide) (hw _ bw541) (fun _ h9 => h9) rfl dX11_keeps_14 ?_
    refine lv_iload_n hx hb dX11_keeps_17 rfl (lv_at hl 3 rfl) ?_
    refine xci (xRunV (rest := []) (As := [.int v2]) (C := RX10) (k := 1) C0 (c_X10_isThere l E g a v2) bw107 bw609 bw115 bw113 bw114 hd_X10_isThere ⟨Nat.le_of_ble_eq_true rfl, Nat.le_of_ble_eq_true rfl⟩ hP (wX_D hD) hS (va_recv hK hP (ci := 10) rfl (gx_4 E g a)) rfl hl.1 rfl (Nat.le_of_ble_eq_true rfl) dX11_keeps_18 ⟨Nat.zero_le _, Nat.zero_le _⟩) hS (fun H locs hP hS => ?_)
    refine lv_if_ne (tgt := 34) hx hb dX11_keeps_21 (by decide) (fun c3 => ?_) (fun c3 => ?_)
    · replace hf := (if_neg c3).symm.trans hf
      refine lv_aload_n hx hb dX11_keeps_34 rfl (lv_at hl 1 rfl) ?_
      refine va_get (C := RX11) (T := TX11) (N := 9) hx hb hw bfX110 hown hK hP 0 (gx_0 E g a) rfl 2 (by decide) (hw _ bw560) (fun _ h9 => h9) rfl dX11_keeps_35 ?_
      refine lv_aload_n hx hb dX11_keeps_38 rfl (lv_at hl 0 rfl) ?_
      refine lv_aload_n hx hb dX11_keeps_39 rfl (lv_at hl 1 rfl) ?_
      refine va_get (C := RX11) (T := TX11) (N := 9) hx hb hw bfX110 hown hK hP 0 (gx_0 E g a) rfl 1 (by decide) (hw _ bw541) (fun _ h9 => h9) rfl dX11_keeps_40 ?_
      refine lv_iload_n hx hb dX11_keeps_43 rfl (lv_at hl 3 rfl) ?_
      refine xci (xRunV (rest := [.ref (E.2.1 (40 + k2)), .ref (E.2.1 7)]) (As := [.int v2]) (C := RX10) (k := 1) C0 (c_X10_placesOf l E g a v2) bw117 bw610 bw115 bw133 bw134 hd_X10_placesOf ⟨Nat.le_of_ble_eq_true rfl, Nat.le_of_ble_eq_true rfl⟩ hP (wX_D hD) hS (va_recv hK hP (ci := 10) rfl (gx_4 E g a)) rfl hl.1 rfl (Nat.le_of_ble_eq_true rfl) dX11_keeps_44 ⟨Nat.zero_le _, Nat.zero_le _⟩) hS (fun H locs hP hS => ?_)
      refine lv_aload_n hx hb dX11_keeps_47 rfl (lv_at hl 1 rfl) ?_
      refine va_get (C := RX11) (T := TX11) (N := 9) hx hb hw bfX110 hown hK hP 0 (gx_0 E g a) rfl 1 (by decide) (hw _ bw541) (fun _ h9 => h9) rfl dX11_keeps_48 ?_
      refine lv_iload_n hx hb dX11_keeps_51 rfl (lv_at hl 3 rfl) ?_
      refine xci (xRunV (rest := [.int (t_X10_placesOf g a v2), .ref (E.2.1 (40 + k2)), .ref (E.2.1 7)]) (As := [.int v2]) (C := RX10) (k := 1) C0 (c_X10_tuplesOf l E g a v2) bw176 bw612 bw115 bw180 bw181 hd_X10_tuplesOf ⟨Nat.le_of_ble_eq_true rfl, Nat.le_of_ble_eq_true rfl⟩ hP (wX_D hD) hS (va_recv hK hP (ci := 10) rfl (gx_4 E g a)) rfl hl.1 rfl (Nat.le_of_ble_eq_true rfl) dX11_keeps_52 ⟨Nat.zero_le _, Nat.zero_le _⟩) hS (fun H locs hP hS => ?_)
      obtain ⟨u4, e5, hf⟩ := bd_some hf
      refine xci (xRunV (rest := []) (As := [.ref (E.2.1 (40 + k2)), .int (t_X10_placesOf g a v2), .int (t_X10_tuplesOf g a v2)]) (C := RX0) (k := 3) C0 (c_X0_strays l E k2 hk2 g a (t_X10_placesOf g a v2) (t_X10_tuplesOf g a v2) e5) bw63 bw633 bw30 bw65 bw66 hd_X0_strays ⟨Nat.le_of_ble_eq_true rfl, Nat.le_of_ble_eq_true rfl⟩ hP (wX_D hD) hS (va_recv hK hP (ci := 0) rfl (gx_7 E g a)) rfl hl.1 rfl (Nat.le_of_ble_eq_true rfl) dX11_keeps_55 ⟨Nat.zero_le _, Nat.zero_le _⟩) hS (fun H locs hP hS => ?_)
      refine lv_if_ne (tgt := 65) hx hb dX11_keeps_58 (by decide) (fun c6 => ?_) (fun c6 => ?_)
      · replace hf := (if_neg c6).symm.trans hf
        refine lv_iconst (v := 0) hx hb dX11_keeps_65 (by decide) ?_
        exact xz_retS (fr := (fun r => r.1)) (fw := (fun r => wX E r.2.1 r.2.2)) hx hb hr hlocks (Sum.inr.inj (Option.some.inj hf)) nz0 hP hS dX11_keeps_66
      · replace hf := (if_pos c6).symm.trans hf
        refine lv_iconst (v := 1) hx hb dX11_keeps_61 (by decide) ?_
        refine lv_goto (tgt := 66) hx hb dX11_keeps_62 (by decide) ?_
        exact xz_retS (fr := (fun r => r.1)) (fw := (fun r => wX E r.2.1 r.2.2)) hx hb hr hlocks (Sum.inr.inj (Option.some.inj hf)) nz1 hP hS dX11_keeps_66
    · replace hf := (if_pos c3).symm.trans hf
      exact B24 g a _ _ _ hP hS (lv_sub hl [] rfl) hf
set_option maxRecDepth 100000 in
set_option maxHeartbeats 40000000 in
theorem cr_X11_breaks (l : Launch) (E : xE) (g : xG) (a : xA) (v1 : Int32) (v2 : Int32) {res : Int32 × xG × xA} (hf : f_X11_breaks g a v1 v2 = some (.inr res)) : xM l E yX11_breaks cX11_breaks 4 (some .int) 5 115 [.ref (E.2.1 0), .int v1, .int v2] (wX E g a) (xQi E res.1 (wX E res.2.1 res.2.2)) := by
  unfold f_X11_breaks at hf
  refine xM_of (by decide) (Nat.le_of_ble_eq_true rfl) ?_
  intro p e s m below meth c A hx hb hr hml hts hown hlocks hA hD hP hK hN hS ls hl
  have hw : ∀ w ∈ BW, w.before _ s = true := fun w h => hts w (List.mem_cons_of_mem _ h)
  have C0 : xCtx E p m c cX11_breaks 4 s _ RX11 A yX11_breaks cX11_breaks 4 (some .int) := ⟨hx, hb, hml, hown, hts, hA, hK, hN⟩
  have hl : lv_has ls 4 [(0, .ref (E.2.1 0)), (1, .int v1), (2, .int v2)] := hl
  have B24 : ∀ (g : xG) (a : xA) (H : Heap) (locs : List Loc) (ls : Array Slot), va_P E.1 vwCl (wX E g a) H → va_S A s.heap H locs → lv_has ls 4 [] → f_X11_breaks_24 g a = some (.inr res) → W p l e ({ frames := 5, cells := 0, slots := 0, locals := 115 }) s m ([.ref (E.2.1 0), .int v1, .int v2] : List Value).toArray below meth c H locs 0 0 (MQ below ((xQi E res.1 (wX E res.2.1 res.2.2)) A) ([.ref (E.2.1 0), .int v1, .int v2] : List Value).toArray s 0 0 A) (F0 m 24 ls []) := by
    intro g a H locs ls hP hS hl hf
    unfold f_X11_breaks_24 at hf
    exact absurd (Option.some.inj hf) (by intro h; cases h)
  refine lv_aload_n hx hb dX11_breaks_0 rfl (lv_at hl 0 rfl) ?_
  refine va_get (C := RX11) (T := TX11) (N := 9) hx hb hw bfX110 hown hK hP 0 (gx_0 E g a) rfl 3 (by decide) (hw _ bw542) (fun _ h9 => h9) rfl dX11_breaks_1 ?_
  refine lv_iload_n hx hb dX11_breaks_4 rfl (lv_at hl 1 rfl) ?_
  rcases q1 : (getF (g 4) v1) with _ | k2
  · replace hf := (om_none q1).symm.trans hf
    refine xcq (xRunV (rest := []) (As := [.int v1]) (C := RX6) (k := 1) C0 (c_X6_getN l E g a v1 q1) bw445 bw628 bw450 bw448 bw449 hd_X6_get ⟨Nat.le_of_ble_eq_true rfl, Nat.le_of_ble_eq_true rfl⟩ hP (wX_D hD) hS (va_recv hK hP (ci := 6) rfl (gx_10 E g a)) rfl hl.1 rfl (Nat.le_of_ble_eq_true rfl) dX11_breaks_5 ⟨Nat.zero_le _, Nat.zero_le _⟩) hS (fun H locs hP hS => ?_)
    refine lv_astore_nN (lv' := [(3, .null), (0, .ref (E.2.1 0)), (1, .int v1), (2, .int v2)]) hx hb dX11_breaks_8 rfl hl (by decide) rfl (fun ls hl => ?_)
    refine lv_aload_nN hx hb dX11_breaks_9 rfl (lv_at hl 0 rfl) ?_
    refine lv_ifnullN (tgt := 24) hx hb dX11_breaks_10 (by decide) ?_
    exact B24 g a _ _ _ hP hS (lv_sub hl [] rfl) hf
  · replace hf := (om_some q1).symm.trans hf
    have hk2 := getF_lt q1
    refine xcq (xRunV (rest := []) (As := [.int v1]) (C := RX6) (k := 1) C0 (c_X6_getS l E g a v1 q1) bw445 bw628 bw450 bw448 bw449 hd_X6_get ⟨Nat.le_of_ble_eq_true rfl, Nat.le_of_ble_eq_true rfl⟩ hP (wX_D hD) hS (va_recv hK hP (ci := 6) rfl (gx_10 E g a)) rfl hl.1 rfl (Nat.le_of_ble_eq_true rfl) dX11_breaks_5 ⟨Nat.zero_le _, Nat.zero_le _⟩) hS (fun H locs hP hS => ?_)
    refine lv_astore_n (lv' := [(3, .ref (E.2.1 (40 + k2))), (0, .ref (E.2.1 0)), (1, .int v1), (2, .int v2)]) hx hb dX11_breaks_8 rfl hl (by decide) rfl (fun ls hl => ?_)
    refine lv_aload_n hx hb dX11_breaks_9 rfl (lv_at hl 0 rfl) ?_
    refine lv_ifnull hx hb dX11_breaks_10 ?_
    refine lv_aload_n hx hb dX11_breaks_13 rfl (lv_at hl 1 rfl) ?_
    refine va_get (C := RX11) (T := TX11) (N := 9) hx hb hw bfX110 hown hK hP 0 (gx_0 E g a) rfl 1 (by decide) (hw _ bw541) (fun _ h9 => h9) rfl dX11_breaks_14 ?_
    refine lv_iload_n hx hb dX11_breaks_17 rfl (lv_at hl 3 rfl) ?_
    refine xci (xRunV (rest := []) (As := [.int v2]) (C := RX10) (k := 1) C0 (c_X10_isThere l E g a v2) bw107 bw609 bw115 bw113 bw114 hd_X10_isThere ⟨Nat.le_of_ble_eq_true rfl, Nat.le_of_ble_eq_true rfl⟩ hP (wX_D hD) hS (va_recv hK hP (ci := 10) rfl (gx_4 E g a)) rfl hl.1 rfl (Nat.le_of_ble_eq_true rfl) dX11_breaks_18 ⟨Nat.zero_le _, Nat.zero_le _⟩) hS (fun H locs hP hS => ?_)
    refine lv_if_ne (tgt := 34) hx hb dX11_breaks_21 (by decide) (fun c3 => ?_) (fun c3 => ?_)
    · replace hf := (if_neg c3).symm.trans hf
      refine lv_aload_n hx hb dX11_breaks_34 rfl (lv_at hl 1 rfl) ?_
      refine va_get (C := RX11) (T := TX11) (N := 9) hx hb hw bfX110 hown hK hP 0 (gx_0 E g a) rfl 2 (by decide) (hw _ bw560) (fun _ h9 => h9) rfl dX11_breaks_35 ?_
      refine lv_aload_n hx hb dX11_breaks_38 rfl (lv_at hl 0 rfl) ?_
      refine lv_aload_n hx hb dX11_breaks_39 rfl (lv_at hl 1 rfl) ?_
      refine va_get (C := RX11) (T := TX11) (N := 9) hx hb hw bfX110 hown hK hP 0 (gx_0 E g a) rfl 1 (by decide) (hw _ bw541) (fun _ h9 => h9) rfl dX11_breaks_40 ?_
      refine lv_iload_n hx hb dX11_breaks_43 rfl (lv_at hl 3 rfl) ?_
      refine xci (xRunV (rest := [.ref (E.2.1 (40 + k2)), .ref (E.2.1 7)]) (As := [.int v2]) (C := RX10) (k := 1) C0 (c_X10_placesOf l E g a v2) bw117 bw610 bw115 bw133 bw134 hd_X10_placesOf ⟨Nat.le_of_ble_eq_true rfl, Nat.le_of_ble_eq_true rfl⟩ hP (wX_D hD) hS (va_recv hK hP (ci := 10) rfl (gx_4 E g a)) rfl hl.1 rfl (Nat.le_of_ble_eq_true rfl) dX11_breaks_44 ⟨Nat.zero_le _, Nat.zero_le _⟩) hS (fun H locs hP hS => ?_)
      refine lv_aload_n hx hb dX11_breaks_47 rfl (lv_at hl 1 rfl) ?_
      refine va_get (C := RX11) (T := TX11) (N := 9) hx hb hw bfX110 hown hK hP 0 (gx_0 E g a) rfl 1 (by decide) (hw _ bw541) (fun _ h9 => h9) rfl dX11_breaks_48 ?_
      refine lv_iload_n hx hb dX11_breaks_51 rfl (lv_at hl 3 rfl) ?_
      refine xci (xRunV (rest := [.int (t_X10_placesOf g a v2), .ref (E.2.1 (40 + k2)), .ref (E.2.1 7)]) (As := [.int v2]) (C := RX10) (k := 1) C0 (c_X10_tuplesOf l E g a v2) bw176 bw612 bw115 bw180 bw181 hd_X10_tuplesOf ⟨Nat.le_of_ble_eq_true rfl, Nat.le_of_ble_eq_true rfl⟩ hP (wX_D hD) hS (va_recv hK hP (ci := 10) rfl (gx_4 E g a)) rfl hl.1 rfl (Nat.le_of_ble_eq_true rfl) dX11_breaks_52 ⟨Nat.zero_le _, Nat.zero_le _⟩) hS (fun H locs hP hS => ?_)
      obtain ⟨u4, e5, hf⟩ := bd_some hf
      refine xci (xRunV (rest := []) (As := [.ref (E.2.1 (40 + k2)), .int (t_X10_placesOf g a v2), .int (t_X10_tuplesOf g a v2)]) (C := RX0) (k := 3) C0 (c_X0_strays l E k2 hk2 g a (t_X10_placesOf g a v2) (t_X10_tuplesOf g a v2) e5) bw63 bw633 bw30 bw65 bw66 hd_X0_strays ⟨Nat.le_of_ble_eq_true rfl, Nat.le_of_ble_eq_true rfl⟩ hP (wX_D hD) hS (va_recv hK hP (ci := 0) rfl (gx_7 E g a)) rfl hl.1 rfl (Nat.le_of_ble_eq_true rfl) dX11_breaks_55 ⟨Nat.zero_le _, Nat.zero_le _⟩) hS (fun H locs hP hS => ?_)
      obtain ⟨u6, e7, hf⟩ := bd_some hf
      refine xci (xRunS (rest := []) (As := [.int u4.1]) (k := 1) C0 (c_X11_lowestOf l E u4.2.1 u4.2.2 u4.1 e7) bw635 bw636 bw13 bw637 hd_X11_lowestOf ⟨Nat.le_of_ble_eq_true rfl, Nat.le_of_ble_eq_true rfl⟩ hP (wX_D hD) hS rfl hl.1 rfl (Nat.le_of_ble_eq_true rfl) dX11_breaks_58 ⟨Nat.zero_le _, Nat.zero_le _⟩) hS (fun H locs hP hS => ?_)
      exact xi_retS (fr := (fun r => r.1)) (fw := (fun r => wX E r.2.1 r.2.2)) hx hb hr hlocks (Sum.inr.inj (Option.some.inj hf)) hP hS dX11_breaks_61
    · replace hf := (if_pos c3).symm.trans hf
      exact B24 g a _ _ _ hP hS (lv_sub hl [] rfl) hf
set_option maxRecDepth 100000 in
set_option maxHeartbeats 40000000 in
theorem cr_X11_closed (l : Launch) (E : xE) (g : xG) (a : xA) (v1 : Int32) (v2 : Int32) {res : Int32 × xG × xA} (hf : f_X11_closed g a v1 v2 = some (.inr res)) : xM l E yX11_closed cX11_closed 4 (some .int) 6 141 [.ref (E.2.1 0), .int v1, .int v2] (wX E g a) (xQi E res.1 (wX E res.2.1 res.2.2)) := by
  unfold f_X11_closed at hf
  refine xM_of (by decide) (Nat.le_of_ble_eq_true rfl) ?_
  intro p e s m below meth c A hx hb hr hml hts hown hlocks hA hD hP hK hN hS ls hl
  have hw : ∀ w ∈ BW, w.before _ s = true := fun w h => hts w (List.mem_cons_of_mem _ h)
  have C0 : xCtx E p m c cX11_closed 4 s _ RX11 A yX11_closed cX11_closed 4 (some .int) := ⟨hx, hb, hml, hown, hts, hA, hK, hN⟩
  have hl : lv_has ls 4 [(0, .ref (E.2.1 0)), (1, .int v1), (2, .int v2)] := hl
  have B24 : ∀ (g : xG) (a : xA) (H : Heap) (locs : List Loc) (ls : Array Slot), va_P E.1 vwCl (wX E g a) H → va_S A s.heap H locs → lv_has ls 4 [] → f_X11_closed_24 g a = some (.inr res) → W p l e ({ frames := 6, cells := 0, slots := 0, locals := 141 }) s m ([.ref (E.2.1 0), .int v1, .int v2] : List Value).toArray below meth c H locs 0 0 (MQ below ((xQi E res.1 (wX E res.2.1 res.2.2)) A) ([.ref (E.2.1 0), .int v1, .int v2] : List Value).toArray s 0 0 A) (F0 m 24 ls []) := by
    intro g a H locs ls hP hS hl hf
    unfold f_X11_closed_24 at hf
    exact absurd (Option.some.inj hf) (by intro h; cases h)
  refine lv_aload_n hx hb dX11_closed_0 rfl (lv_at hl 0 rfl) ?_
  refine va_get (C := RX11) (T := TX11) (N := 9) hx hb hw bfX110 hown hK hP 0 (gx_0 E g a) rfl 3 (by decide) (hw _ bw542) (fun _ h9 => h9) rfl dX11_closed_1 ?_
  refine lv_iload_n hx hb dX11_closed_4 rfl (lv_at hl 1 rfl) ?_
  rcases q1 : (getF (g 4) v1) with _ | k2
  · replace hf := (om_none q1).symm.trans hf
    refine xcq (xRunV (rest := []) (As := [.int v1]) (C := RX6) (k := 1) C0 (c_X6_getN l E g a v1 q1) bw445 bw628 bw450 bw448 bw449 hd_X6_get ⟨Nat.le_of_ble_eq_true rfl, Nat.le_of_ble_eq_true rfl⟩ hP (wX_D hD) hS (va_recv hK hP (ci := 6) rfl (gx_10 E g a)) rfl hl.1 rfl (Nat.le_of_ble_eq_true rfl) dX11_closed_5 ⟨Nat.zero_le _, Nat.zero_le _⟩) hS (fun H locs hP hS => ?_)
    refine lv_astore_nN (lv' := [(3, .null), (0, .ref (E.2.1 0)), (1, .int v1), (2, .int v2)]) hx hb dX11_closed_8 rfl hl (by decide) rfl (fun ls hl => ?_)
    refine lv_aload_nN hx hb dX11_closed_9 rfl (lv_at hl 0 rfl) ?_
    refine lv_ifnullN (tgt := 24) hx hb dX11_closed_10 (by decide) ?_
    exact B24 g a _ _ _ hP hS (lv_sub hl [] rfl) hf
  · replace hf := (om_some q1).symm.trans hf
    have hk2 := getF_lt q1
    refine xcq (xRunV (rest := []) (As := [.int v1]) (C := RX6) (k := 1) C0 (c_X6_getS l E g a v1 q1) bw445 bw628 bw450 bw448 bw449 hd_X6_get ⟨Nat.le_of_ble_eq_true rfl, Nat.le_of_ble_eq_true rfl⟩ hP (wX_D hD) hS (va_recv hK hP (ci := 6) rfl (gx_10 E g a)) rfl hl.1 rfl (Nat.le_of_ble_eq_true rfl) dX11_closed_5 ⟨Nat.zero_le _, Nat.zero_le _⟩) hS (fun H locs hP hS => ?_)
    refine lv_astore_n (lv' := [(3, .ref (E.2.1 (40 + k2))), (0, .ref (E.2.1 0)), (1, .int v1), (2, .int v2)]) hx hb dX11_closed_8 rfl hl (by decide) rfl (fun ls hl => ?_)
    refine lv_aload_n hx hb dX11_closed_9 rfl (lv_at hl 0 rfl) ?_
    refine lv_ifnull hx hb dX11_closed_10 ?_
    refine lv_aload_n hx hb dX11_closed_13 rfl (lv_at hl 1 rfl) ?_
    refine va_get (C := RX11) (T := TX11) (N := 9) hx hb hw bfX110 hown hK hP 0 (gx_0 E g a) rfl 1 (by decide) (hw _ bw541) (fun _ h9 => h9) rfl dX11_closed_14 ?_
    refine lv_iload_n hx hb dX11_closed_17 rfl (lv_at hl 3 rfl) ?_
    refine xci (xRunV (rest := []) (As := [.int v2]) (C := RX10) (k := 1) C0 (c_X10_isThere l E g a v2) bw107 bw609 bw115 bw113 bw114 hd_X10_isThere ⟨Nat.le_of_ble_eq_true rfl, Nat.le_of_ble_eq_true rfl⟩ hP (wX_D hD) hS (va_recv hK hP (ci := 10) rfl (gx_4 E g a)) rfl hl.1 rfl (Nat.le_of_ble_eq_true rfl) dX11_closed_18 ⟨Nat.zero_le _, Nat.zero_le _⟩) hS (fun H locs hP hS => ?_)
    refine lv_if_ne (tgt := 34) hx hb dX11_closed_21 (by decide) (fun c3 => ?_) (fun c3 => ?_)
    · replace hf := (if_neg c3).symm.trans hf
      refine lv_aload_n hx hb dX11_closed_34 rfl (lv_at hl 1 rfl) ?_
      refine va_get (C := RX11) (T := TX11) (N := 9) hx hb hw bfX110 hown hK hP 0 (gx_0 E g a) rfl 2 (by decide) (hw _ bw560) (fun _ h9 => h9) rfl dX11_closed_35 ?_
      refine lv_aload_n hx hb dX11_closed_38 rfl (lv_at hl 0 rfl) ?_
      refine lv_aload_n hx hb dX11_closed_39 rfl (lv_at hl 1 rfl) ?_
      refine va_get (C := RX11) (T := TX11) (N := 9) hx hb hw bfX110 hown hK hP 0 (gx_0 E g a) rfl 1 (by decide) (hw _ bw541) (fun _ h9 => h9) rfl dX11_closed_40 ?_
      refine lv_iload_n hx hb dX11_closed_43 rfl (lv_at hl 3 rfl) ?_
      refine xci (xRunV (rest := [.ref (E.2.1 (40 + k2)), .ref (E.2.1 7)]) (As := [.int v2]) (C := RX10) (k := 1) C0 (c_X10_placesOf l E g a v2) bw117 bw610 bw115 bw133 bw134 hd_X10_placesOf ⟨Nat.le_of_ble_eq_true rfl, Nat.le_of_ble_eq_true rfl⟩ hP (wX_D hD) hS (va_recv hK hP (ci := 10) rfl (gx_4 E g a)) rfl hl.1 rfl (Nat.le_of_ble_eq_true rfl) dX11_closed_44 ⟨Nat.zero_le _, Nat.zero_le _⟩) hS (fun H locs hP hS => ?_)
      refine lv_aload_n hx hb dX11_closed_47 rfl (lv_at hl 1 rfl) ?_
      refine va_get (C := RX11) (T := TX11) (N := 9) hx hb hw bfX110 hown hK hP 0 (gx_0 E g a) rfl 1 (by decide) (hw _ bw541) (fun _ h9 => h9) rfl dX11_closed_48 ?_
      refine lv_iload_n hx hb dX11_closed_51 rfl (lv_at hl 3 rfl) ?_
      refine xci (xRunV (rest := [.int (t_X10_placesOf g a v2), .ref (E.2.1 (40 + k2)), .ref (E.2.1 7)]) (As := [.int v2]) (C := RX10) (k := 1) C0 (c_X10_tuplesOf l E g a v2) bw176 bw612 bw115 bw180 bw181 hd_X10_tuplesOf ⟨Nat.le_of_ble_eq_true rfl, Nat.le_of_ble_eq_true rfl⟩ hP (wX_D hD) hS (va_recv hK hP (ci := 10) rfl (gx_4 E g a)) rfl hl.1 rfl (Nat.le_of_ble_eq_true rfl) dX11_closed_52 ⟨Nat.zero_le _, Nat.zero_le _⟩) hS (fun H locs hP hS => ?_)
      obtain ⟨u4, e5, hf⟩ := bd_some hf
      refine xci (xRunV (rest := []) (As := [.ref (E.2.1 (40 + k2)), .int (t_X10_placesOf g a v2), .int (t_X10_tuplesOf g a v2)]) (C := RX0) (k := 3) C0 (c_X0_closure l E k2 hk2 g a (t_X10_placesOf g a v2) (t_X10_tuplesOf g a v2) e5) bw67 bw639 bw30 bw640 bw641 hd_X0_closure ⟨Nat.le_of_ble_eq_true rfl, Nat.le_of_ble_eq_true rfl⟩ hP (wX_D hD) hS (va_recv hK hP (ci := 0) rfl (gx_7 E g a)) rfl hl.1 rfl (Nat.le_of_ble_eq_true rfl) dX11_closed_55 ⟨Nat.zero_le _, Nat.zero_le _⟩) hS (fun H locs hP hS => ?_)
      exact xi_retS (fr := (fun r => r.1)) (fw := (fun r => wX E r.2.1 r.2.2)) hx hb hr hlocks (Sum.inr.inj (Option.some.inj hf)) hP hS dX11_closed_58
    · replace hf := (if_pos c3).symm.trans hf
      exact B24 g a _ _ _ hP hS (lv_sub hl [] rfl) hf
set_option maxRecDepth 100000 in
set_option maxHeartbeats 40000000 in
theorem cr_X11_kept (l : Launch) (E : xE) (g : xG) (a : xA) (v1 : Int32) {res : Int32 × xG × xA} (hf : f_X11_kept g a v1 = some (.inr res)) : xM l E yX11_kept cX11_kept 2 (some .int) 6 142 [.ref (E.2.1 0), .int v1] (wX E g a) (xQi E res.1 (wX E res.2.1 res.2.2)) := by
  unfold f_X11_kept at hf
  refine xM_of (by decide) (Nat.le_of_ble_eq_true rfl) ?_
  intro p e s m below meth c A hx hb hr hml hts hown hlocks hA hD hP hK hN hS ls hl
  have hw : ∀ w ∈ BW, w.before _ s = true := fun w h => hts w (List.mem_cons_of_mem _ h)
  have C0 : xCtx E p m c cX11_kept 2 s _ RX11 A yX11_kept cX11_kept 2 (some .int) := ⟨hx, hb, hml, hown, hts, hA, hK, hN⟩
  have hl : lv_has ls 2 [(0, .ref (E.2.1 0)), (1, .int v1)] := hl
  have B20 : ∀ (g : xG) (a : xA) (x1 : Int32) (H : Heap) (locs : List Loc) (ls : Array Slot), va_P E.1 vwCl (wX E g a) H → va_S A s.heap H locs → lv_has ls 2 [(0, .ref (E.2.1 0)), (1, .int x1)] → f_X11_kept_20 g a x1 = some (.inr res) → W p l e ({ frames := 6, cells := 0, slots := 0, locals := 142 }) s m ([.ref (E.2.1 0), .int v1] : List Value).toArray below meth c H locs 0 0 (MQ below ((xQi E res.1 (wX E res.2.1 res.2.2)) A) ([.ref (E.2.1 0), .int v1] : List Value).toArray s 0 0 A) (F0 m 20 ls []) := by
    intro g a x1 H locs ls hP hS hl hf
    unfold f_X11_kept_20 at hf
    refine lv_aload_n hx hb dX11_kept_20 rfl (lv_at hl 0 rfl) ?_
    refine va_get (C := RX11) (T := TX11) (N := 9) hx hb hw bfX110 hown hK hP 0 (gx_0 E g a) rfl 3 (by decide) (hw _ bw542) (fun _ h9 => h9) rfl dX11_kept_21 ?_
    refine lv_iload_n hx hb dX11_kept_24 rfl (lv_at hl 1 rfl) ?_
    obtain ⟨u3, e4, hf⟩ := bd_some hf
    refine xci (xRunV (rest := []) (As := [.int x1]) (C := RX6) (k := 1) C0 (c_X6_countKept l E g a x1 e4) bw475 bw647 bw450 bw648 bw649 hd_X6_countKept ⟨Nat.le_of_ble_eq_true rfl, Nat.le_of_ble_eq_true rfl⟩ hP (wX_D hD) hS (va_recv hK hP (ci := 6) rfl (gx_10 E g a)) rfl hl.1 rfl (Nat.le_of_ble_eq_true rfl) dX11_kept_25 ⟨Nat.zero_le _, Nat.zero_le _⟩) hS (fun H locs hP hS => ?_)
    exact xi_retS (fr := (fun r => r.1)) (fw := (fun r => wX E r.2.1 r.2.2)) hx hb hr hlocks (Sum.inr.inj (Option.some.inj hf)) hP hS dX11_kept_28
  refine lv_iload_n hx hb dX11_kept_0 rfl (lv_at hl 1 rfl) ?_
  refine lv_iconst (v := 1) hx hb dX11_kept_1 (by decide) ?_
  refine lv_icmp_eq (tgt := 20) hx hb dX11_kept_2 (by decide) (fun c1 => ?_) (fun c1 => ?_)
  · replace hf := (if_pos c1).symm.trans hf
    exact B20 g a v1 _ _ _ hP hS (lv_sub hl [0, 1] rfl) hf
  · replace hf := (if_neg c1).symm.trans hf
    refine lv_iload_n hx hb dX11_kept_5 rfl (lv_at hl 1 rfl) ?_
    refine lv_iconst (v := 2) hx hb dX11_kept_6 (by decide) ?_
    refine lv_icmp_eq (tgt := 20) hx hb dX11_kept_7 (by decide) (fun c2 => ?_) (fun c2 => ?_)
    · replace hf := (if_pos c2).symm.trans hf
      exact B20 g a v1 _ _ _ hP hS (lv_sub hl [0, 1] rfl) hf
    · replace hf := (if_neg c2).symm.trans hf
      exact absurd (Option.some.inj hf) (by intro h; cases h)
set_option maxRecDepth 100000 in
set_option maxHeartbeats 40000000 in
theorem cr_X11_first (l : Launch) (E : xE) (g : xG) (a : xA) (v1 : Int32) {res : Int64 × xG × xA} (hf : f_X11_first g a v1 = some (.inr res)) : xM l E yX11_first cX11_first 2 (some .long) 37 852 [.ref (E.2.1 0), .int v1] (wX E g a) (xQl E res.1 (wX E res.2.1 res.2.2)) := by
  unfold f_X11_first at hf
  refine xM_of (by decide) (Nat.le_of_ble_eq_true rfl) ?_
  intro p e s m below meth c A hx hb hr hml hts hown hlocks hA hD hP hK hN hS ls hl
  have hw : ∀ w ∈ BW, w.before _ s = true := fun w h => hts w (List.mem_cons_of_mem _ h)
  have C0 : xCtx E p m c cX11_first 2 s _ RX11 A yX11_first cX11_first 2 (some .long) := ⟨hx, hb, hml, hown, hts, hA, hK, hN⟩
  have hl : lv_has ls 2 [(0, .ref (E.2.1 0)), (1, .int v1)] := hl
  refine lv_iload_n hx hb dX11_first_0 rfl (lv_at hl 1 rfl) ?_
  by_cases c1 : v1 = 0
  · replace hf := (if_pos c1).symm.trans hf
    refine lv_tableIn (tgt := 32) (off := 31) hx hb dX11_first_1 (by rw [c1]; decide) (by rw [c1]; decide) (by rw [c1]; rfl) (by decide) ?_
    refine lv_aload_n hx hb dX11_first_32 rfl (lv_at hl 0 rfl) ?_
    refine va_get (C := RX11) (T := TX11) (N := 9) hx hb hw bfX110 hown hK hP 0 (gx_0 E g a) rfl 4 (by decide) (hw _ bw565) (fun _ h9 => h9) rfl dX11_first_33 ?_
    obtain ⟨u2, e3, hf⟩ := bd_some hf
    refine xcl (xRunV (rest := []) (As := []) (C := RX3) (k := 0) C0 (c_X3_firstConstant l E g a e3) bw307 bw651 bw303 bw652 bw653 hd_X3_firstConstant ⟨Nat.le_of_ble_eq_true rfl, Nat.le_of_ble_eq_true rfl⟩ hP (wX_D hD) hS (va_recv hK hP (ci := 3) rfl (gx_13 E g a)) rfl hl.1 rfl (Nat.le_of_ble_eq_true rfl) dX11_first_36 ⟨Nat.zero_le _, Nat.zero_le _⟩) hS (fun H locs hP hS => ?_)
    exact xl_retS (fr := (fun r => r.1)) (fw := (fun r => wX E r.2.1 r.2.2)) hx hb hr hlocks (Sum.inr.inj (Option.some.inj hf)) hP hS dX11_first_39
  · replace hf := (if_neg c1).symm.trans hf
    by_cases c4 : v1 = 1
    · replace hf := (if_pos c4).symm.trans hf
      refine lv_tableIn (tgt := 40) (off := 39) hx hb dX11_first_1 (by rw [c4]; decide) (by rw [c4]; decide) (by rw [c4]; rfl) (by decide) ?_
      refine lv_aload_n hx hb dX11_first_40 rfl (lv_at hl 0 rfl) ?_
      refine va_get (C := RX11) (T := TX11) (N := 9) hx hb hw bfX110 hown hK hP 0 (gx_0 E g a) rfl 4 (by decide) (hw _ bw565) (fun _ h9 => h9) rfl dX11_first_41 ?_
      obtain ⟨u5, e6, hf⟩ := bd_some hf
      refine xcl (xRunV (rest := []) (As := []) (C := RX3) (k := 0) C0 (c_X3_firstSemilattice l E g a e6) bw326 bw654 bw303 bw655 bw656 hd_X3_firstSemilattice ⟨Nat.le_of_ble_eq_true rfl, Nat.le_of_ble_eq_true rfl⟩ hP (wX_D hD) hS (va_recv hK hP (ci := 3) rfl (gx_13 E g a)) rfl hl.1 rfl (Nat.le_of_ble_eq_true rfl) dX11_first_44 ⟨Nat.zero_le _, Nat.zero_le _⟩) hS (fun H locs hP hS => ?_)
      exact xl_retS (fr := (fun r => r.1)) (fw := (fun r => wX E r.2.1 r.2.2)) hx hb hr hlocks (Sum.inr.inj (Option.some.inj hf)) hP hS dX11_first_47
    · replace hf := (if_neg c4).symm.trans hf
      by_cases c7 : v1 = 2
      · replace hf := (if_pos c7).symm.trans hf
        refine lv_tableIn (tgt := 48) (off := 47) hx hb dX11_first_1 (by rw [c7]; decide) (by rw [c7]; decide) (by rw [c7]; rfl) (by decide) ?_
        refine lv_aload_n hx hb dX11_first_48 rfl (lv_at hl 0 rfl) ?_
        refine va_get (C := RX11) (T := TX11) (N := 9) hx hb hw bfX110 hown hK hP 0 (gx_0 E g a) rfl 4 (by decide) (hw _ bw565) (fun _ h9 => h9) rfl dX11_first_49 ?_
        obtain ⟨u8, e9, hf⟩ := bd_some hf
        refine xcl (xRunV (rest := []) (As := []) (C := RX3) (k := 0) C0 (c_X3_firstVote l E g a e9) bw393 bw657 bw303 bw658 bw659 hd_X3_firstVote ⟨Nat.le_of_ble_eq_true rfl, Nat.le_of_ble_eq_true rfl⟩ hP (wX_D hD) hS (va_recv hK hP (ci := 3) rfl (gx_13 E g a)) rfl hl.1 rfl (Nat.le_of_ble_eq_true rfl) dX11_first_52 ⟨Nat.zero_le _, Nat.zero_le _⟩) hS (fun H locs hP hS => ?_)
        exact xl_retS (fr := (fun r => r.1)) (fw := (fun r => wX E r.2.1 r.2.2)) hx hb hr hlocks (Sum.inr.inj (Option.some.inj hf)) hP hS dX11_first_55
      · replace hf := (if_neg c7).symm.trans hf
        by_cases c10 : v1 = 3
        · replace hf := (if_pos c10).symm.trans hf
          refine lv_tableIn (tgt := 56) (off := 55) hx hb dX11_first_1 (by rw [c10]; decide) (by rw [c10]; decide) (by rw [c10]; rfl) (by decide) ?_
          refine lv_aload_n hx hb dX11_first_56 rfl (lv_at hl 0 rfl) ?_
          refine va_get (C := RX11) (T := TX11) (N := 9) hx hb hw bfX110 hown hK hP 0 (gx_0 E g a) rfl 4 (by decide) (hw _ bw565) (fun _ h9 => h9) rfl dX11_first_57 ?_
          obtain ⟨u11, e12, hf⟩ := bd_some hf
          refine xcl (xRunV (rest := []) (As := []) (C := RX3) (k := 0) C0 (c_X3_firstSum l E g a e12) bw409 bw660 bw303 bw661 bw662 hd_X3_firstSum ⟨Nat.le_of_ble_eq_true rfl, Nat.le_of_ble_eq_true rfl⟩ hP (wX_D hD) hS (va_recv hK hP (ci := 3) rfl (gx_13 E g a)) rfl hl.1 rfl (Nat.le_of_ble_eq_true rfl) dX11_first_60 ⟨Nat.zero_le _, Nat.zero_le _⟩) hS (fun H locs hP hS => ?_)
          exact xl_retS (fr := (fun r => r.1)) (fw := (fun r => wX E r.2.1 r.2.2)) hx hb hr hlocks (Sum.inr.inj (Option.some.inj hf)) hP hS dX11_first_63
        · replace hf := (if_neg c10).symm.trans hf
          refine lv_tableOut (tgt := 64) hx hb dX11_first_1 (by have h9 := tsw0 (x := v1) 4 (by decide) (by intro i hi; match i, hi with | 0, _ => exact c1 | 1, _ => exact c4 | 2, _ => exact c7 | 3, _ => exact c10); omega) (by decide) ?_
          exact absurd (Option.some.inj hf) (by intro h; cases h)
set_option maxRecDepth 100000 in
set_option maxHeartbeats 40000000 in
theorem cr_X11_around (l : Launch) (E : xE) (g : xG) (a : xA) (v1 : Int32) {res : Int32 × xG × xA} (hf : f_X11_around g a v1 = some (.inr res)) : xM l E yX11_around cX11_around 2 (some .int) 37 855 [.ref (E.2.1 0), .int v1] (wX E g a) (xQi E res.1 (wX E res.2.1 res.2.2)) := by
  unfold f_X11_around at hf
  refine xM_of (by decide) (Nat.le_of_ble_eq_true rfl) ?_
  intro p e s m below meth c A hx hb hr hml hts hown hlocks hA hD hP hK hN hS ls hl
  have hw : ∀ w ∈ BW, w.before _ s = true := fun w h => hts w (List.mem_cons_of_mem _ h)
  have C0 : xCtx E p m c cX11_around 2 s _ RX11 A yX11_around cX11_around 2 (some .int) := ⟨hx, hb, hml, hown, hts, hA, hK, hN⟩
  have hl : lv_has ls 2 [(0, .ref (E.2.1 0)), (1, .int v1)] := hl
  have B48 : ∀ (g : xG) (a : xA) (x1 : Int32) (s0 : Int32) (s1 : Int32) (H : Heap) (locs : List Loc) (ls : Array Slot), va_P E.1 vwCl (wX E g a) H → va_S A s.heap H locs → lv_has ls 2 [(0, .ref (E.2.1 0)), (1, .int x1)] → f_X11_around_48 g a x1 s0 s1 = some (.inr res) → W p l e ({ frames := 37, cells := 0, slots := 0, locals := 855 }) s m ([.ref (E.2.1 0), .int v1] : List Value).toArray below meth c H locs 0 0 (MQ below ((xQi E res.1 (wX E res.2.1 res.2.2)) A) ([.ref (E.2.1 0), .int v1] : List Value).toArray s 0 0 A) (F0 m 48 ls [.int s0, .int s1]) := by
    intro g a x1 s0 s1 H locs ls hP hS hl hf
    unfold f_X11_around_48 at hf
    refine lv_icmp_le (tgt := 61) hx hb dX11_around_48 (by decide) (fun c3 => ?_) (fun c3 => ?_)
    · replace hf := (if_pos c3).symm.trans hf
      refine lv_aload_n hx hb dX11_around_61 rfl (lv_at hl 0 rfl) ?_
      refine va_get (C := RX11) (T := TX11) (N := 9) hx hb hw bfX110 hown hK hP 0 (gx_0 E g a) rfl 4 (by decide) (hw _ bw565) (fun _ h9 => h9) rfl dX11_around_62 ?_
      refine lv_iload_n hx hb dX11_around_65 rfl (lv_at hl 1 rfl) ?_
      obtain ⟨u4, e5, hf⟩ := bd_some hf
      refine xci (xRunV (rest := []) (As := [.int x1]) (C := RX3) (k := 1) C0 (c_X3_leastAround l E g a x1 e5) bw430 bw672 bw303 bw673 bw674 hd_X3_leastAround ⟨Nat.le_of_ble_eq_true rfl, Nat.le_of_ble_eq_true rfl⟩ hP (wX_D hD) hS (va_recv hK hP (ci := 3) rfl (gx_13 E g a)) rfl hl.1 rfl (Nat.le_of_ble_eq_true rfl) dX11_around_66 ⟨Nat.zero_le _, Nat.zero_le _⟩) hS (fun H locs hP hS => ?_)
      exact xi_retS (fr := (fun r => r.1)) (fw := (fun r => wX E r.2.1 r.2.2)) hx hb hr hlocks (Sum.inr.inj (Option.some.inj hf)) hP hS dX11_around_69
    · replace hf := (if_neg c3).symm.trans hf
      exact absurd (Option.some.inj hf) (by intro h; cases h)
  refine lv_aload_n hx hb dX11_around_0 rfl (lv_at hl 0 rfl) ?_
  refine va_get (C := RX11) (T := TX11) (N := 9) hx hb hw bfX110 hown hK hP 0 (gx_0 E g a) rfl 1 (by decide) (hw _ bw541) (fun _ h9 => h9) rfl dX11_around_1 ?_
  refine lv_iload_n hx hb dX11_around_4 rfl (lv_at hl 1 rfl) ?_
  refine xci (xRunV (rest := []) (As := [.int v1]) (C := RX10) (k := 1) C0 (c_X10_isThere l E g a v1) bw107 bw609 bw115 bw113 bw114 hd_X10_isThere ⟨Nat.le_of_ble_eq_true rfl, Nat.le_of_ble_eq_true rfl⟩ hP (wX_D hD) hS (va_recv hK hP (ci := 10) rfl (gx_4 E g a)) rfl hl.1 rfl (Nat.le_of_ble_eq_true rfl) dX11_around_5 ⟨Nat.zero_le _, Nat.zero_le _⟩) hS (fun H locs hP hS => ?_)
  refine lv_if_ne (tgt := 21) hx hb dX11_around_8 (by decide) (fun c1 => ?_) (fun c1 => ?_)
  · replace hf := (if_neg c1).symm.trans hf
    refine lv_aload_n hx hb dX11_around_21 rfl (lv_at hl 0 rfl) ?_
    refine va_get (C := RX11) (T := TX11) (N := 9) hx hb hw bfX110 hown hK hP 0 (gx_0 E g a) rfl 1 (by decide) (hw _ bw541) (fun _ h9 => h9) rfl dX11_around_22 ?_
    refine lv_iload_n hx hb dX11_around_25 rfl (lv_at hl 1 rfl) ?_
    refine xci (xRunV (rest := []) (As := [.int v1]) (C := RX10) (k := 1) C0 (c_X10_tuplesOf l E g a v1) bw176 bw612 bw115 bw180 bw181 hd_X10_tuplesOf ⟨Nat.le_of_ble_eq_true rfl, Nat.le_of_ble_eq_true rfl⟩ hP (wX_D hD) hS (va_recv hK hP (ci := 10) rfl (gx_4 E g a)) rfl hl.1 rfl (Nat.le_of_ble_eq_true rfl) dX11_around_26 ⟨Nat.zero_le _, Nat.zero_le _⟩) hS (fun H locs hP hS => ?_)
    refine xci (xRunS (rest := []) (As := [.int (t_X10_tuplesOf g a v1)]) (k := 1) C0 (c_J6_bitCount_0f7a4 l E g a (t_X10_tuplesOf g a v1)) bw355 bw618 bw362 bw361 hd_J6_bitCount_0f7a4 ⟨Nat.le_of_ble_eq_true rfl, Nat.le_of_ble_eq_true rfl⟩ hP (wX_D hD) hS rfl hl.1 rfl (Nat.le_of_ble_eq_true rfl) dX11_around_29 ⟨Nat.zero_le _, Nat.zero_le _⟩) hS (fun H locs hP hS => ?_)
    refine lv_aload_n hx hb dX11_around_32 rfl (lv_at hl 0 rfl) ?_
    refine va_get (C := RX11) (T := TX11) (N := 9) hx hb hw bfX110 hown hK hP 0 (gx_0 E g a) rfl 0 (by decide) (hw _ bw540) (fun _ h9 => h9) rfl dX11_around_33 ?_
    refine va_get (C := RX4) (T := TX4) (N := 3) hx hb hw bfX40 hown hK hP 1 (gx_1 E g a) rfl 0 (by decide) (hw _ bw597) (fun _ h9 => h9) rfl dX11_around_36 ?_
    refine lv_iconst (v := 2) hx hb dX11_around_39 (by decide) ?_
    refine lv_icmp_ne (tgt := 47) hx hb dX11_around_40 (by decide) (fun c2 => ?_) (fun c2 => ?_)
    · replace hf := (if_neg c2).symm.trans hf
      refine lv_iconst (v := 2) hx hb dX11_around_47 (by decide) ?_
      exact B48 g a v1 2 (t_J6_bitCount_0f7a4 g a (t_X10_tuplesOf g a v1)) _ _ _ hP hS (lv_sub hl [0, 1] rfl) hf
    · replace hf := (if_pos c2).symm.trans hf
      refine lv_iconst (v := 3) hx hb dX11_around_43 (by decide) ?_
      refine lv_goto (tgt := 48) hx hb dX11_around_44 (by decide) ?_
      exact B48 g a v1 3 (t_J6_bitCount_0f7a4 g a (t_X10_tuplesOf g a v1)) _ _ _ hP hS (lv_sub hl [0, 1] rfl) hf
  · replace hf := (if_pos c1).symm.trans hf
    exact absurd (Option.some.inj hf) (by intro h; cases h)
set_option maxRecDepth 100000 in
set_option maxHeartbeats 40000000 in
theorem cr_X11_type (l : Launch) (E : xE) (g : xG) (a : xA) (v1 : Int64) (v3 : Int32) {res : Int32 × xG × xA} (hf : f_X11_type g a v1 v3 = some (.inr res)) : xM l E yX11_type cX11_type 5 (some .int) 2 40 [.ref (E.2.1 0), .long v1, .int v3] (wX E g a) (xQi E res.1 (wX E res.2.1 res.2.2)) := by
  unfold f_X11_type at hf
  refine xM_of (by decide) (Nat.le_of_ble_eq_true rfl) ?_
  intro p e s m below meth c A hx hb hr hml hts hown hlocks hA hD hP hK hN hS ls hl
  have hw : ∀ w ∈ BW, w.before _ s = true := fun w h => hts w (List.mem_cons_of_mem _ h)
  have C0 : xCtx E p m c cX11_type 5 s _ RX11 A yX11_type cX11_type 5 (some .int) := ⟨hx, hb, hml, hown, hts, hA, hK, hN⟩
  have hl : lv_has ls 5 [(0, .ref (E.2.1 0)), (1, .long v1), (3, .int v3)] := hl
  have B11 : ∀ (g : xG) (a : xA) (H : Heap) (locs : List Loc) (ls : Array Slot), va_P E.1 vwCl (wX E g a) H → va_S A s.heap H locs → lv_has ls 5 [] → f_X11_type_11 g a = some (.inr res) → W p l e ({ frames := 2, cells := 0, slots := 0, locals := 40 }) s m ([.ref (E.2.1 0), .long v1, .int v3] : List Value).toArray below meth c H locs 0 0 (MQ below ((xQi E res.1 (wX E res.2.1 res.2.2)) A) ([.ref (E.2.1 0), .long v1, .int v3] : List Value).toArray s 0 0 A) (F0 m 11 ls []) := by
    intro g a H locs ls hP hS hl hf
    unfold f_X11_type_11 at hf
    exact absurd (Option.some.inj hf) (by intro h; cases h)
  have B88 : ∀ (n : Nat) (g : xG) (a : xA) (x1 : Int64) (x3 : Int32) (x4 : Int32) (H : Heap) (locs : List Loc) (ls : Array Slot), va_P E.1 vwCl (wX E g a) H → va_S A s.heap H locs → lv_has ls 5 [(0, .ref (E.2.1 0)), (1, .long x1), (3, .int x3), (4, .int x4)] → f_X11_type_88 n g a x1 x3 x4 = some (.inr res) → W p l e ({ frames := 2, cells := 0, slots := 0, locals := 40 }) s m ([.ref (E.2.1 0), .long v1, .int v3] : List Value).toArray below meth c H locs 0 0 (MQ below ((xQi E res.1 (wX E res.2.1 res.2.2)) A) ([.ref (E.2.1 0), .long v1, .int v3] : List Value).toArray s 0 0 A) (F0 m 88 ls []) := by
    intro n
    induction n with
    | zero => intro g a x1 x3 x4 H locs ls hP hS hl hf; exact absurd (show (none : Option ((Nat × xG × xA) ⊕ (Int32 × xG × xA))) = some (.inr res) from hf) (by intro h; cases h)
    | succ n ih =>
      intro g a x1 x3 x4 H locs ls hP hS hl hf
      replace hf := (e_X11_type_88 n g a x1 x3 x4).symm.trans hf
      refine lv_iload hx hb dX11_type_88 (lv_at hl 3 rfl) ?_
      refine lv_iload_n hx hb dX11_type_90 rfl (lv_at hl 2 rfl) ?_
      refine lv_icmp_ge (tgt := 113) hx hb dX11_type_91 (by decide) (fun c8 => ?_) (fun c8 => ?_)
      · replace hf := (if_pos c8).symm.trans hf
        refine lv_aload_n hx hb dX11_type_113 rfl (lv_at hl 0 rfl) ?_
        refine va_get (C := RX11) (T := TX11) (N := 9) hx hb hw bfX110 hown hK hP 0 (gx_0 E g a) rfl 5 (by decide) (hw _ bw568) (fun _ h9 => h9) rfl dX11_type_114 ?_
        refine va_get (C := RX9) (T := TX9) (N := 2) hx hb hw bfX90 hown hK hP 19 (gx_19 E g a) rfl 0 (by decide) (hw _ bw679) (fun _ h9 => h9) rfl dX11_type_117 ?_
        exact xi_retS (fr := (fun r => r.1)) (fw := (fun r => wX E r.2.1 r.2.2)) hx hb hr hlocks (Sum.inr.inj (Option.some.inj hf)) hP hS dX11_type_120
      · replace hf := (if_neg c8).symm.trans hf
        refine lv_aload_n hx hb dX11_type_94 rfl (lv_at hl 0 rfl) ?_
        refine va_get (C := RX11) (T := TX11) (N := 9) hx hb hw bfX110 hown hK hP 0 (gx_0 E g a) rfl 5 (by decide) (hw _ bw568) (fun _ h9 => h9) rfl dX11_type_95 ?_
        refine lv_lload_n hx hb dX11_type_98 rfl (lv_at hl 1 rfl) ?_
        refine lv_iload hx hb dX11_type_99 (lv_at hl 3 rfl) ?_
        obtain ⟨u9, e10, hf⟩ := bd_some hf
        refine xci (xRunS (rest := [.ref (E.2.1 19)]) (As := [.long x1, .int x4]) (k := 2) C0 (c_X11_signOf l E g a x1 x4 e10) bw676 bw680 bw13 bw681 hd_X11_signOf ⟨Nat.le_of_ble_eq_true rfl, Nat.le_of_ble_eq_true rfl⟩ hP (wX_D hD) hS rfl hl.1 rfl (Nat.le_of_ble_eq_true rfl) dX11_type_101 ⟨Nat.zero_le _, Nat.zero_le _⟩) hS (fun H locs hP hS => ?_)
        obtain ⟨u11, e12, hf⟩ := bd_some hf
        refine xcv (xRunV (rest := []) (As := [.int u9]) (C := RX9) (k := 1) C0 (c_X9_add l E g a u9 e12) bw531 bw684 bw103 bw685 bw686 hd_X9_add ⟨Nat.le_of_ble_eq_true rfl, Nat.le_of_ble_eq_true rfl⟩ hP (wX_D hD) hS (va_recv hK hP (ci := 9) rfl (gx_19 E g a)) rfl hl.1 rfl (Nat.le_of_ble_eq_true rfl) dX11_type_104 ⟨Nat.zero_le _, Nat.zero_le _⟩) hS (fun H locs hP hS => ?_)
        refine lv_iinc (v := (x4 + 1)) (lv' := [(4, .int (x4 + 1)), (0, .ref (E.2.1 0)), (1, .long x1), (3, .int x3)]) hx hb dX11_type_107 hl (k := 3) rfl rfl (by decide) rfl (fun ls hl => ?_)
        refine lv_goto (tgt := 88) hx hb dX11_type_110 (by decide) ?_
        exact ih u11.1 u11.2 x1 x3 (x4 + 1) _ _ _ hP hS (lv_sub hl [1, 2, 3, 0] rfl) hf
  have B25 : ∀ (n : Nat) (g : xG) (a : xA) (x1 : Int64) (x3 : Int32) (x4 : Int32) (H : Heap) (locs : List Loc) (ls : Array Slot), va_P E.1 vwCl (wX E g a) H → va_S A s.heap H locs → lv_has ls 5 [(0, .ref (E.2.1 0)), (1, .long x1), (3, .int x3), (4, .int x4)] → f_X11_type_25 n g a x1 x3 x4 = some (.inr res) → W p l e ({ frames := 2, cells := 0, slots := 0, locals := 40 }) s m ([.ref (E.2.1 0), .long v1, .int v3] : List Value).toArray below meth c H locs 0 0 (MQ below ((xQi E res.1 (wX E res.2.1 res.2.2)) A) ([.ref (E.2.1 0), .long v1, .int v3] : List Value).toArray s 0 0 A) (F0 m 25 ls []) := by
    intro n
    induction n with
    | zero => intro g a x1 x3 x4 H locs ls hP hS hl hf; exact absurd (show (none : Option ((Nat × xG × xA) ⊕ (Int32 × xG × xA))) = some (.inr res) from hf) (by intro h; cases h)
    | succ n ih =>
      intro g a x1 x3 x4 H locs ls hP hS hl hf
      replace hf := (e_X11_type_25 n g a x1 x3 x4).symm.trans hf
      refine lv_iload hx hb dX11_type_25 (lv_at hl 3 rfl) ?_
      refine lv_iload_n hx hb dX11_type_27 rfl (lv_at hl 2 rfl) ?_
      refine lv_icmp_ge (tgt := 60) hx hb dX11_type_28 (by decide) (fun c3 => ?_) (fun c3 => ?_)
      · replace hf := (if_pos c3).symm.trans hf
        refine lv_aload_n hx hb dX11_type_60 rfl (lv_at hl 0 rfl) ?_
        refine va_get (C := RX11) (T := TX11) (N := 9) hx hb hw bfX110 hown hK hP 0 (gx_0 E g a) rfl 5 (by decide) (hw _ bw568) (fun _ h9 => h9) rfl dX11_type_61 ?_
        refine va_get (C := RX9) (T := TX9) (N := 2) hx hb hw bfX90 hown hK hP 19 (gx_19 E g a) rfl 0 (by decide) (hw _ bw679) (fun _ h9 => h9) rfl dX11_type_64 ?_
        refine lv_iload_n hx hb dX11_type_67 rfl (lv_at hl 2 rfl) ?_
        refine lv_iadd hx hb dX11_type_68 ?_
        refine lv_bipush (v := 60) hx hb dX11_type_69 (by decide) ?_
        refine lv_icmp_le (tgt := 85) hx hb dX11_type_71 (by decide) (fun c4 => ?_) (fun c4 => ?_)
        · replace hf := (if_pos c4).symm.trans hf
          refine lv_iconst (v := 0) hx hb dX11_type_85 (by decide) ?_
          refine lv_istore (lv' := [(4, .int 0), (0, .ref (E.2.1 0)), (1, .long x1), (3, .int x3)]) hx hb dX11_type_86 hl (by decide) rfl (fun ls hl => ?_)
          exact B88 fu g a x1 x3 0 _ _ _ hP hS (lv_sub hl [1, 2, 3, 0] rfl) hf
        · replace hf := (if_neg c4).symm.trans hf
          exact absurd (Option.some.inj hf) (by intro h; cases h)
      · replace hf := (if_neg c3).symm.trans hf
        refine lv_lload_n hx hb dX11_type_31 rfl (lv_at hl 1 rfl) ?_
        refine lv_iload hx hb dX11_type_32 (lv_at hl 3 rfl) ?_
        obtain ⟨u5, e6, hf⟩ := bd_some hf
        refine xci (xRunS (rest := []) (As := [.long x1, .int x4]) (k := 2) C0 (c_X11_signOf l E g a x1 x4 e6) bw676 bw680 bw13 bw681 hd_X11_signOf ⟨Nat.le_of_ble_eq_true rfl, Nat.le_of_ble_eq_true rfl⟩ hP (wX_D hD) hS rfl hl.1 rfl (Nat.le_of_ble_eq_true rfl) dX11_type_34 ⟨Nat.zero_le _, Nat.zero_le _⟩) hS (fun H locs hP hS => ?_)
        refine xci (xRunS (rest := []) (As := [.int u5]) (k := 1) C0 (c_X9_canHold l E g a u5) bw529 bw682 bw103 bw683 hd_X9_canHold ⟨Nat.le_of_ble_eq_true rfl, Nat.le_of_ble_eq_true rfl⟩ hP (wX_D hD) hS rfl hl.1 rfl (Nat.le_of_ble_eq_true rfl) dX11_type_37 ⟨Nat.zero_le _, Nat.zero_le _⟩) hS (fun H locs hP hS => ?_)
        refine lv_if_ne (tgt := 54) hx hb dX11_type_40 (by decide) (fun c7 => ?_) (fun c7 => ?_)
        · replace hf := (if_neg c7).symm.trans hf
          refine lv_iinc (v := (x4 + 1)) (lv' := [(4, .int (x4 + 1)), (0, .ref (E.2.1 0)), (1, .long x1), (3, .int x3)]) hx hb dX11_type_54 hl (k := 3) rfl rfl (by decide) rfl (fun ls hl => ?_)
          refine lv_goto (tgt := 25) hx hb dX11_type_57 (by decide) ?_
          exact ih g a x1 x3 (x4 + 1) _ _ _ hP hS (lv_sub hl [1, 2, 3, 0] rfl) hf
        · replace hf := (if_pos c7).symm.trans hf
          exact absurd (Option.some.inj hf) (by intro h; cases h)
  refine lv_iload_n hx hb dX11_type_0 rfl (lv_at hl 2 rfl) ?_
  refine lv_iconst (v := 1) hx hb dX11_type_1 (by decide) ?_
  refine lv_icmp_lt (tgt := 11) hx hb dX11_type_2 (by decide) (fun c1 => ?_) (fun c1 => ?_)
  · replace hf := (if_pos c1).symm.trans hf
    exact B11 g a _ _ _ hP hS (lv_sub hl [] rfl) hf
  · replace hf := (if_neg c1).symm.trans hf
    refine lv_iload_n hx hb dX11_type_5 rfl (lv_at hl 2 rfl) ?_
    refine lv_bipush (v := 8) hx hb dX11_type_6 (by decide) ?_
    refine lv_icmp_le (tgt := 22) hx hb dX11_type_8 (by decide) (fun c2 => ?_) (fun c2 => ?_)
    · replace hf := (if_pos c2).symm.trans hf
      refine lv_iconst (v := 0) hx hb dX11_type_22 (by decide) ?_
      refine lv_istore (lv' := [(4, .int 0), (0, .ref (E.2.1 0)), (1, .long v1), (3, .int v3)]) hx hb dX11_type_23 hl (by decide) rfl (fun ls hl => ?_)
      exact B25 fu g a v1 v3 0 _ _ _ hP hS (lv_sub hl [1, 2, 3, 0] rfl) hf
    · replace hf := (if_neg c2).symm.trans hf
      exact B11 g a _ _ _ hP hS (lv_sub hl [] rfl) hf
set_option maxRecDepth 100000 in
set_option maxHeartbeats 40000000 in
theorem cr_X11_define (l : Launch) (E : xE) (g : xG) (a : xA) {res : Int32 × xG × xA} (hf : f_X11_define g a = some (.inr res)) : xM l E yX11_define cX11_define 2 (some .int) 15 347 [.ref (E.2.1 0)] (wX E g a) (xQi E res.1 (wX E res.2.1 res.2.2)) := by
  unfold f_X11_define at hf
  refine xM_of (by decide) (Nat.le_of_ble_eq_true rfl) ?_
  intro p e s m below meth c A hx hb hr hml hts hown hlocks hA hD hP hK hN hS ls hl
  have hw : ∀ w ∈ BW, w.before _ s = true := fun w h => hts w (List.mem_cons_of_mem _ h)
  have C0 : xCtx E p m c cX11_define 2 s _ RX11 A yX11_define cX11_define 2 (some .int) := ⟨hx, hb, hml, hown, hts, hA, hK, hN⟩
  have hl : lv_has ls 2 [(0, .ref (E.2.1 0))] := hl
  refine lv_aload_n hx hb dX11_define_0 rfl (lv_at hl 0 rfl) ?_
  refine va_get (C := RX11) (T := TX11) (N := 9) hx hb hw bfX110 hown hK hP 0 (gx_0 E g a) rfl 6 (by decide) (hw _ bw571) (fun _ h9 => h9) rfl dX11_define_1 ?_
  refine lv_aload_n hx hb dX11_define_4 rfl (lv_at hl 0 rfl) ?_
  refine va_get (C := RX11) (T := TX11) (N := 9) hx hb hw bfX110 hown hK hP 0 (gx_0 E g a) rfl 5 (by decide) (hw _ bw568) (fun _ h9 => h9) rfl dX11_define_5 ?_
  obtain ⟨u1, e2, hf⟩ := bd_some hf
  refine xci (xRunV (rest := []) (As := [.ref (E.2.1 19)]) (C := RX1) (k := 1) C0 (c_X1_read l E g a e2) bw168 bw688 bw147 bw689 bw690 hd_X1_read ⟨Nat.le_of_ble_eq_true rfl, Nat.le_of_ble_eq_true rfl⟩ hP (wX_D hD) hS (va_recv hK hP (ci := 1) rfl (gx_21 E g a)) rfl hl.1 rfl (Nat.le_of_ble_eq_true rfl) dX11_define_8 ⟨Nat.zero_le _, Nat.zero_le _⟩) hS (fun H locs hP hS => ?_)
  refine lv_iconst (v := (-1)) hx hb dX11_define_11 (by decide) ?_
  refine lv_icmp_eq (tgt := 26) hx hb dX11_define_12 (by decide) (fun c3 => ?_) (fun c3 => ?_)
  · replace hf := (if_pos c3).symm.trans hf
    refine lv_aload_n hx hb dX11_define_26 rfl (lv_at hl 0 rfl) ?_
    refine va_get (C := RX11) (T := TX11) (N := 9) hx hb hw bfX110 hown hK hP 0 (gx_0 E u1.2.1 u1.2.2) rfl 1 (by decide) (hw _ bw541) (fun _ h9 => h9) rfl dX11_define_27 ?_
    refine va_get (C := RX10) (T := TX10) (N := 4) hx hb hw bfX100 hown hK hP 4 (gx_4 E u1.2.1 u1.2.2) rfl 0 (by decide) (hw _ bw602) (fun _ h9 => h9) rfl dX11_define_30 ?_
    refine lv_bipush (v := 8) hx hb dX11_define_33 (by decide) ?_
    refine lv_icmp_lt (tgt := 48) hx hb dX11_define_35 (by decide) (fun c4 => ?_) (fun c4 => ?_)
    · replace hf := (if_pos c4).symm.trans hf
      refine lv_aload_n hx hb dX11_define_48 rfl (lv_at hl 0 rfl) ?_
      refine va_get (C := RX11) (T := TX11) (N := 9) hx hb hw bfX110 hown hK hP 0 (gx_0 E u1.2.1 u1.2.2) rfl 1 (by decide) (hw _ bw541) (fun _ h9 => h9) rfl dX11_define_49 ?_
      refine lv_aload_n hx hb dX11_define_52 rfl (lv_at hl 0 rfl) ?_
      refine va_get (C := RX11) (T := TX11) (N := 9) hx hb hw bfX110 hown hK hP 0 (gx_0 E u1.2.1 u1.2.2) rfl 6 (by decide) (hw _ bw571) (fun _ h9 => h9) rfl dX11_define_53 ?_
      refine va_get (C := RX1) (T := TX1) (N := 9) hx hb hw bfX10 hown hK hP 21 (gx_21 E u1.2.1 u1.2.2) rfl 0 (by decide) (hw _ bw692) (fun _ h9 => h9) rfl dX11_define_56 ?_
      refine lv_aload_n hx hb dX11_define_59 rfl (lv_at hl 0 rfl) ?_
      refine va_get (C := RX11) (T := TX11) (N := 9) hx hb hw bfX110 hown hK hP 0 (gx_0 E u1.2.1 u1.2.2) rfl 6 (by decide) (hw _ bw571) (fun _ h9 => h9) rfl dX11_define_60 ?_
      obtain ⟨u5, e6, hf⟩ := bd_some hf
      refine xci (xRunV (rest := [.int (u1.2.1 7), .ref (E.2.1 4)]) (As := []) (C := RX1) (k := 0) C0 (c_X1_tuplesOfHead l E u1.2.1 u1.2.2 e6) bw207 bw693 bw147 bw694 bw695 hd_X1_tuplesOfHead ⟨Nat.le_of_ble_eq_true rfl, Nat.le_of_ble_eq_true rfl⟩ hP (wX_D hD) hS (va_recv hK hP (ci := 1) rfl (gx_21 E u1.2.1 u1.2.2)) rfl hl.1 rfl (Nat.le_of_ble_eq_true rfl) dX11_define_63 ⟨Nat.zero_le _, Nat.zero_le _⟩) hS (fun H locs hP hS => ?_)
      obtain ⟨u7, e8, hf⟩ := bd_some hf
      refine xci (xRunV (rest := []) (As := [.int (u1.2.1 7), .int u5.1]) (C := RX10) (k := 2) C0 (c_X10_add l E u1.2.1 u5.2 (u1.2.1 7) u5.1 e8) bw539 bw604 bw115 bw605 bw606 hd_X10_add ⟨Nat.le_of_ble_eq_true rfl, Nat.le_of_ble_eq_true rfl⟩ hP (wX_D hD) hS (va_recv hK hP (ci := 10) rfl (gx_4 E u1.2.1 u5.2)) rfl hl.1 rfl (Nat.le_of_ble_eq_true rfl) dX11_define_66 ⟨Nat.zero_le _, Nat.zero_le _⟩) hS (fun H locs hP hS => ?_)
      refine lv_istore_n (lv' := [(1, .int u7.1), (0, .ref (E.2.1 0))]) hx hb dX11_define_69 rfl hl (by decide) rfl (fun ls hl => ?_)
      refine lv_aload_n hx hb dX11_define_70 rfl (lv_at hl 1 rfl) ?_
      refine va_get (C := RX11) (T := TX11) (N := 9) hx hb hw bfX110 hown hK hP 0 (gx_0 E u7.2.1 u7.2.2) rfl 5 (by decide) (hw _ bw568) (fun _ h9 => h9) rfl dX11_define_71 ?_
      refine lv_iconst (v := 0) hx hb dX11_define_74 (by decide) ?_
      refine va_put (v := .int 0) (ty := .int) (C := RX9) (T := TX9) (N := 2) hx hb hw bfX90 tyX9 tyX9_ok nmX9 hown hK hP (wX_D hD) hS 19 (gx_19 E u7.2.1 u7.2.2) rfl 0 (by decide) (hw _ bw679) (fun _ h9 => h9) rfl (by decide +kernel) rfl rfl (Nat.le_of_ble_eq_true rfl) dX11_define_75 (fun H locs hP _ hS => ?_)
      have hP := xP_eq (sx_g6 E u7.2.1 u7.2.2 0) hP
      refine lv_iload_n hx hb dX11_define_78 rfl (lv_at hl 0 rfl) ?_
      exact xi_retS (fr := (fun r => r.1)) (fw := (fun r => wX E r.2.1 r.2.2)) hx hb hr hlocks (Sum.inr.inj (Option.some.inj hf)) hP hS dX11_define_79
    · replace hf := (if_neg c4).symm.trans hf
      exact absurd (Option.some.inj hf) (by intro h; cases h)
  · replace hf := (if_neg c3).symm.trans hf
    exact absurd (Option.some.inj hf) (by intro h; cases h)
set_option maxRecDepth 100000 in
set_option maxHeartbeats 40000000 in
theorem cr_X11_instance (l : Launch) (E : xE) (g : xG) (a : xA) (v1 : Int32) {res : Int32 × xG} (hf : f_X11_instance g a v1 = some (.inr res)) : xM l E yX11_instance cX11_instance 3 (some .int) 1 21 [.ref (E.2.1 0), .int v1] (wX E g a) (xQi E res.1 (wX E res.2 a)) := by
  unfold f_X11_instance at hf
  refine xM_of (by decide) (Nat.le_of_ble_eq_true rfl) ?_
  intro p e s m below meth c A hx hb hr hml hts hown hlocks hA hD hP hK hN hS ls hl
  have hw : ∀ w ∈ BW, w.before _ s = true := fun w h => hts w (List.mem_cons_of_mem _ h)
  have C0 : xCtx E p m c cX11_instance 3 s _ RX11 A yX11_instance cX11_instance 3 (some .int) := ⟨hx, hb, hml, hown, hts, hA, hK, hN⟩
  have hl : lv_has ls 3 [(0, .ref (E.2.1 0)), (1, .int v1)] := hl
  have B11 : ∀ (g : xG) (H : Heap) (locs : List Loc) (ls : Array Slot), va_P E.1 vwCl (wX E g a) H → va_S A s.heap H locs → lv_has ls 3 [] → f_X11_instance_11 a g = some (.inr res) → W p l e ({ frames := 1, cells := 0, slots := 0, locals := 21 }) s m ([.ref (E.2.1 0), .int v1] : List Value).toArray below meth c H locs 0 0 (MQ below ((xQi E res.1 (wX E res.2 a)) A) ([.ref (E.2.1 0), .int v1] : List Value).toArray s 0 0 A) (F0 m 11 ls []) := by
    intro g H locs ls hP hS hl hf
    unfold f_X11_instance_11 at hf
    exact absurd (Option.some.inj hf) (by intro h; cases h)
  refine lv_iload_n hx hb dX11_instance_0 rfl (lv_at hl 1 rfl) ?_
  refine lv_iconst (v := 1) hx hb dX11_instance_1 (by decide) ?_
  refine lv_icmp_lt (tgt := 11) hx hb dX11_instance_2 (by decide) (fun c1 => ?_) (fun c1 => ?_)
  · replace hf := (if_pos c1).symm.trans hf
    exact B11 g _ _ _ hP hS (lv_sub hl [] rfl) hf
  · replace hf := (if_neg c1).symm.trans hf
    refine lv_iload_n hx hb dX11_instance_5 rfl (lv_at hl 1 rfl) ?_
    refine lv_bipush (v := 6) hx hb dX11_instance_6 (by decide) ?_
    refine lv_icmp_le (tgt := 22) hx hb dX11_instance_8 (by decide) (fun c2 => ?_) (fun c2 => ?_)
    · replace hf := (if_pos c2).symm.trans hf
      refine lv_aload_n hx hb dX11_instance_22 rfl (lv_at hl 0 rfl) ?_
      refine va_get (C := RX11) (T := TX11) (N := 9) hx hb hw bfX110 hown hK hP 0 (gx_0 E g a) rfl 7 (by decide) (hw _ bw544) (fun _ h9 => h9) rfl dX11_instance_23 ?_
      refine va_get (C := RX2) (T := TX2) (N := 10) hx hb hw bfX20 hown hK hP 31 (gx_31 E g a) rfl 0 (by decide) (hw _ bw698) (fun _ h9 => h9) rfl dX11_instance_26 ?_
      refine lv_istore_n (lv' := [(2, .int (g 13)), (0, .ref (E.2.1 0)), (1, .int v1)]) hx hb dX11_instance_29 rfl hl (by decide) rfl (fun ls hl => ?_)
      refine lv_aload_n hx hb dX11_instance_30 rfl (lv_at hl 1 rfl) ?_
      refine va_get (C := RX11) (T := TX11) (N := 9) hx hb hw bfX110 hown hK hP 0 (gx_0 E g a) rfl 7 (by decide) (hw _ bw544) (fun _ h9 => h9) rfl dX11_instance_31 ?_
      refine lv_iload_n hx hb dX11_instance_34 rfl (lv_at hl 2 rfl) ?_
      refine xcv (xRunV (rest := []) (As := [.int v1]) (C := RX2) (k := 1) C0 (c_X2_begin l E 1 (by decide) g a v1) bw90 bw551 bw86 bw160 bw161 hd_X2_begin ⟨Nat.le_of_ble_eq_true rfl, Nat.le_of_ble_eq_true rfl⟩ hP (wX_D hD) hS (va_recv hK hP (ci := 2) rfl (gx_31 E g a)) rfl hl.1 rfl (Nat.le_of_ble_eq_true rfl) dX11_instance_35 ⟨Nat.zero_le _, Nat.zero_le _⟩) hS (fun H locs hP hS => ?_)
      refine lv_iload_n hx hb dX11_instance_38 rfl (lv_at hl 0 rfl) ?_
      exact xi_retS (fr := (fun r => r.1)) (fw := (fun r => wX E r.2 a)) hx hb hr hlocks (Sum.inr.inj (Option.some.inj hf)) hP hS dX11_instance_39
    · replace hf := (if_neg c2).symm.trans hf
      exact B11 g _ _ _ hP hS (lv_sub hl [] rfl) hf
set_option maxRecDepth 100000 in
set_option maxHeartbeats 40000000 in
theorem cr_X11_constrain (l : Launch) (E : xE) (g : xG) (a : xA) (v1 : Int32) (v2 : Int32) (v3 : Int32) (v4 : Int32) {res : Int32 × xG × xA} (hf : f_X11_constrain g a v1 v2 v3 v4 = some (.inr res)) : xM l E yX11_constrain cX11_constrain 6 (some .int) 4 90 [.ref (E.2.1 0), .int v1, .int v2, .int v3, .int v4] (wX E g a) (xQi E res.1 (wX E res.2.1 res.2.2)) := by
  unfold f_X11_constrain at hf
  refine xM_of (by decide) (Nat.le_of_ble_eq_true rfl) ?_
  intro p e s m below meth c A hx hb hr hml hts hown hlocks hA hD hP hK hN hS ls hl
  have hw : ∀ w ∈ BW, w.before _ s = true := fun w h => hts w (List.mem_cons_of_mem _ h)
  have C0 : xCtx E p m c cX11_constrain 6 s _ RX11 A yX11_constrain cX11_constrain 6 (some .int) := ⟨hx, hb, hml, hown, hts, hA, hK, hN⟩
  have hl : lv_has ls 6 [(0, .ref (E.2.1 0)), (1, .int v1), (2, .int v2), (3, .int v3), (4, .int v4)] := hl
  have B46 : ∀ (g : xG) (a : xA) (H : Heap) (locs : List Loc) (ls : Array Slot), va_P E.1 vwCl (wX E g a) H → va_S A s.heap H locs → lv_has ls 6 [] → f_X11_constrain_46 g a = some (.inr res) → W p l e ({ frames := 4, cells := 0, slots := 0, locals := 90 }) s m ([.ref (E.2.1 0), .int v1, .int v2, .int v3, .int v4] : List Value).toArray below meth c H locs 0 0 (MQ below ((xQi E res.1 (wX E res.2.1 res.2.2)) A) ([.ref (E.2.1 0), .int v1, .int v2, .int v3, .int v4] : List Value).toArray s 0 0 A) (F0 m 46 ls []) := by
    intro g a H locs ls hP hS hl hf
    unfold f_X11_constrain_46 at hf
    exact absurd (Option.some.inj hf) (by intro h; cases h)
  have B121 : ∀ (g : xG) (a : xA) (H : Heap) (locs : List Loc) (ls : Array Slot), va_P E.1 vwCl (wX E g a) H → va_S A s.heap H locs → lv_has ls 6 [] → f_X11_constrain_121 g a = some (.inr res) → W p l e ({ frames := 4, cells := 0, slots := 0, locals := 90 }) s m ([.ref (E.2.1 0), .int v1, .int v2, .int v3, .int v4] : List Value).toArray below meth c H locs 0 0 (MQ below ((xQi E res.1 (wX E res.2.1 res.2.2)) A) ([.ref (E.2.1 0), .int v1, .int v2, .int v3, .int v4] : List Value).toArray s 0 0 A) (F0 m 121 ls []) := by
    intro g a H locs ls hP hS hl hf
    unfold f_X11_constrain_121 at hf
    exact absurd (Option.some.inj hf) (by intro h; cases h)
  have B118 : ∀ (g : xG) (a : xA) (x1 : Int32) (x2 : Int32) (x3 : Int32) (x4 : Int32) (s0 : Int32) (s1 : Int32) (H : Heap) (locs : List Loc) (ls : Array Slot), va_P E.1 vwCl (wX E g a) H → va_S A s.heap H locs → lv_has ls 6 [(0, .ref (E.2.1 0)), (1, .int x1), (2, .int x2), (3, .int x3), (4, .int x4)] → f_X11_constrain_118 g a x1 x2 x3 x4 s0 s1 = some (.inr res) → W p l e ({ frames := 4, cells := 0, slots := 0, locals := 90 }) s m ([.ref (E.2.1 0), .int v1, .int v2, .int v3, .int v4] : List Value).toArray below meth c H locs 0 0 (MQ below ((xQi E res.1 (wX E res.2.1 res.2.2)) A) ([.ref (E.2.1 0), .int v1, .int v2, .int v3, .int v4] : List Value).toArray s 0 0 A) (F0 m 118 ls [.int s0, .int s1]) := by
    intro g a x1 x2 x3 x4 s0 s1 H locs ls hP hS hl hf
    unfold f_X11_constrain_118 at hf
    refine lv_icmp_ne (tgt := 132) hx hb dX11_constrain_118 (by decide) (fun c11 => ?_) (fun c11 => ?_)
    · replace hf := (if_neg c11).symm.trans hf
      refine lv_aload_n hx hb dX11_constrain_132 rfl (lv_at hl 0 rfl) ?_
      refine va_get (C := RX11) (T := TX11) (N := 9) hx hb hw bfX110 hown hK hP 0 (gx_0 E g a) rfl 7 (by decide) (hw _ bw544) (fun _ h9 => h9) rfl dX11_constrain_133 ?_
      refine va_get (C := RX2) (T := TX2) (N := 10) hx hb hw bfX20 hown hK hP 31 (gx_31 E g a) rfl 0 (by decide) (hw _ bw698) (fun _ h9 => h9) rfl dX11_constrain_136 ?_
      refine lv_bipush (v := 16) hx hb dX11_constrain_139 (by decide) ?_
      refine lv_icmp_lt (tgt := 155) hx hb dX11_constrain_141 (by decide) (fun c12 => ?_) (fun c12 => ?_)
      · replace hf := (if_pos c12).symm.trans hf
        refine lv_aload_n hx hb dX11_constrain_155 rfl (lv_at hl 0 rfl) ?_
        refine va_get (C := RX11) (T := TX11) (N := 9) hx hb hw bfX110 hown hK hP 0 (gx_0 E g a) rfl 7 (by decide) (hw _ bw544) (fun _ h9 => h9) rfl dX11_constrain_156 ?_
        refine lv_iload_n hx hb dX11_constrain_159 rfl (lv_at hl 1 rfl) ?_
        refine lv_iload_n hx hb dX11_constrain_160 rfl (lv_at hl 2 rfl) ?_
        refine lv_iload_n hx hb dX11_constrain_161 rfl (lv_at hl 3 rfl) ?_
        refine lv_iload hx hb dX11_constrain_162 (lv_at hl 4 rfl) ?_
        obtain ⟨u13, e14, hf⟩ := bd_some hf
        refine xcv (xRunV (rest := []) (As := [.int x1, .int x2, .int x3, .int x4]) (C := RX2) (k := 4) C0 (c_X2_add l E 1 (by decide) g a x1 x2 x3 x4 e14) bw138 bw706 bw86 bw141 bw142 hd_X2_add ⟨Nat.le_of_ble_eq_true rfl, Nat.le_of_ble_eq_true rfl⟩ hP (wX_D hD) hS (va_recv hK hP (ci := 2) rfl (gx_31 E g a)) rfl hl.1 rfl (Nat.le_of_ble_eq_true rfl) dX11_constrain_164 ⟨Nat.zero_le _, Nat.zero_le _⟩) hS (fun H locs hP hS => ?_)
        refine lv_aload_n hx hb dX11_constrain_167 rfl (lv_at hl 0 rfl) ?_
        refine va_get (C := RX11) (T := TX11) (N := 9) hx hb hw bfX110 hown hK hP 0 (gx_0 E u13.1 u13.2) rfl 7 (by decide) (hw _ bw544) (fun _ h9 => h9) rfl dX11_constrain_168 ?_
        refine va_get (C := RX2) (T := TX2) (N := 10) hx hb hw bfX20 hown hK hP 31 (gx_31 E u13.1 u13.2) rfl 0 (by decide) (hw _ bw698) (fun _ h9 => h9) rfl dX11_constrain_171 ?_
        exact xi_retS (fr := (fun r => r.1)) (fw := (fun r => wX E r.2.1 r.2.2)) hx hb hr hlocks (Sum.inr.inj (Option.some.inj hf)) hP hS dX11_constrain_174
      · replace hf := (if_neg c12).symm.trans hf
        exact absurd (Option.some.inj hf) (by intro h; cases h)
    · replace hf := (if_pos c11).symm.trans hf
      exact B121 g a _ _ _ hP hS (lv_sub hl [] rfl) hf
  have B107 : ∀ (g : xG) (a : xA) (x1 : Int32) (x2 : Int32) (x3 : Int32) (x4 : Int32) (x5 : Int32) (s0 : Int32) (H : Heap) (locs : List Loc) (ls : Array Slot), va_P E.1 vwCl (wX E g a) H → va_S A s.heap H locs → lv_has ls 6 [(0, .ref (E.2.1 0)), (1, .int x1), (2, .int x2), (3, .int x3), (4, .int x4), (5, .int x5)] → f_X11_constrain_107 g a x1 x2 x3 x4 x5 s0 = some (.inr res) → W p l e ({ frames := 4, cells := 0, slots := 0, locals := 90 }) s m ([.ref (E.2.1 0), .int v1, .int v2, .int v3, .int v4] : List Value).toArray below meth c H locs 0 0 (MQ below ((xQi E res.1 (wX E res.2.1 res.2.2)) A) ([.ref (E.2.1 0), .int v1, .int v2, .int v3, .int v4] : List Value).toArray s 0 0 A) (F0 m 107 ls [.int s0]) := by
    intro g a x1 x2 x3 x4 x5 s0 H locs ls hP hS hl hf
    unfold f_X11_constrain_107 at hf
    refine lv_iload hx hb dX11_constrain_107 (lv_at hl 5 rfl) ?_
    refine lv_iconst (v := 3) hx hb dX11_constrain_109 (by decide) ?_
    refine lv_icmp_lt (tgt := 117) hx hb dX11_constrain_110 (by decide) (fun c10 => ?_) (fun c10 => ?_)
    · replace hf := (if_pos c10).symm.trans hf
      refine lv_iconst (v := 0) hx hb dX11_constrain_117 (by decide) ?_
      exact B118 g a x1 x2 x3 x4 0 s0 _ _ _ hP hS (lv_sub hl [0, 1, 2, 3, 4] rfl) hf
    · replace hf := (if_neg c10).symm.trans hf
      refine lv_iconst (v := 1) hx hb dX11_constrain_113 (by decide) ?_
      refine lv_goto (tgt := 118) hx hb dX11_constrain_114 (by decide) ?_
      exact B118 g a x1 x2 x3 x4 1 s0 _ _ _ hP hS (lv_sub hl [0, 1, 2, 3, 4] rfl) hf
  have B93 : ∀ (g : xG) (a : xA) (x1 : Int32) (x2 : Int32) (x3 : Int32) (x4 : Int32) (x5 : Int32) (s0 : Int32) (s1 : Int32) (H : Heap) (locs : List Loc) (ls : Array Slot), va_P E.1 vwCl (wX E g a) H → va_S A s.heap H locs → lv_has ls 6 [(0, .ref (E.2.1 0)), (1, .int x1), (2, .int x2), (3, .int x3), (4, .int x4), (5, .int x5)] → f_X11_constrain_93 g a x1 x2 x3 x4 x5 s0 s1 = some (.inr res) → W p l e ({ frames := 4, cells := 0, slots := 0, locals := 90 }) s m ([.ref (E.2.1 0), .int v1, .int v2, .int v3, .int v4] : List Value).toArray below meth c H locs 0 0 (MQ below ((xQi E res.1 (wX E res.2.1 res.2.2)) A) ([.ref (E.2.1 0), .int v1, .int v2, .int v3, .int v4] : List Value).toArray s 0 0 A) (F0 m 93 ls [.int s0, .int s1]) := by
    intro g a x1 x2 x3 x4 x5 s0 s1 H locs ls hP hS hl hf
    unfold f_X11_constrain_93 at hf
    refine lv_icmp_eq (tgt := 121) hx hb dX11_constrain_93 (by decide) (fun c8 => ?_) (fun c8 => ?_)
    · replace hf := (if_pos c8).symm.trans hf
      exact B121 g a _ _ _ hP hS (lv_sub hl [] rfl) hf
    · replace hf := (if_neg c8).symm.trans hf
      refine lv_iload hx hb dX11_constrain_96 (lv_at hl 4 rfl) ?_
      refine lv_iconst (v := (-1)) hx hb dX11_constrain_98 (by decide) ?_
      refine lv_icmp_ne (tgt := 106) hx hb dX11_constrain_99 (by decide) (fun c9 => ?_) (fun c9 => ?_)
      · replace hf := (if_neg c9).symm.trans hf
        refine lv_iconst (v := 0) hx hb dX11_constrain_106 (by decide) ?_
        exact B107 g a x1 x2 x3 x4 x5 0 _ _ _ hP hS (lv_sub hl [0, 1, 2, 3, 4, 5] rfl) hf
      · replace hf := (if_pos c9).symm.trans hf
        refine lv_iconst (v := 1) hx hb dX11_constrain_102 (by decide) ?_
        refine lv_goto (tgt := 107) hx hb dX11_constrain_103 (by decide) ?_
        exact B107 g a x1 x2 x3 x4 x5 1 _ _ _ hP hS (lv_sub hl [0, 1, 2, 3, 4, 5] rfl) hf
  have B82 : ∀ (g : xG) (a : xA) (x1 : Int32) (x2 : Int32) (x3 : Int32) (x4 : Int32) (x5 : Int32) (s0 : Int32) (H : Heap) (locs : List Loc) (ls : Array Slot), va_P E.1 vwCl (wX E g a) H → va_S A s.heap H locs → lv_has ls 6 [(0, .ref (E.2.1 0)), (1, .int x1), (2, .int x2), (3, .int x3), (4, .int x4), (5, .int x5)] → f_X11_constrain_82 g a x1 x2 x3 x4 x5 s0 = some (.inr res) → W p l e ({ frames := 4, cells := 0, slots := 0, locals := 90 }) s m ([.ref (E.2.1 0), .int v1, .int v2, .int v3, .int v4] : List Value).toArray below meth c H locs 0 0 (MQ below ((xQi E res.1 (wX E res.2.1 res.2.2)) A) ([.ref (E.2.1 0), .int v1, .int v2, .int v3, .int v4] : List Value).toArray s 0 0 A) (F0 m 82 ls [.int s0]) := by
    intro g a x1 x2 x3 x4 x5 s0 H locs ls hP hS hl hf
    unfold f_X11_constrain_82 at hf
    refine lv_iload hx hb dX11_constrain_82 (lv_at hl 5 rfl) ?_
    refine lv_iconst (v := 2) hx hb dX11_constrain_84 (by decide) ?_
    refine lv_icmp_lt (tgt := 92) hx hb dX11_constrain_85 (by decide) (fun c7 => ?_) (fun c7 => ?_)
    · replace hf := (if_pos c7).symm.trans hf
      refine lv_iconst (v := 0) hx hb dX11_constrain_92 (by decide) ?_
      exact B93 g a x1 x2 x3 x4 x5 0 s0 _ _ _ hP hS (lv_sub hl [0, 1, 2, 3, 4, 5] rfl) hf
    · replace hf := (if_neg c7).symm.trans hf
      refine lv_iconst (v := 1) hx hb dX11_constrain_88 (by decide) ?_
      refine lv_goto (tgt := 93) hx hb dX11_constrain_89 (by decide) ?_
      exact B93 g a x1 x2 x3 x4 x5 1 s0 _ _ _ hP hS (lv_sub hl [0, 1, 2, 3, 4, 5] rfl) hf
  refine lv_aload_n hx hb dX11_constrain_0 rfl (lv_at hl 0 rfl) ?_
  refine va_get (C := RX11) (T := TX11) (N := 9) hx hb hw bfX110 hown hK hP 0 (gx_0 E g a) rfl 1 (by decide) (hw _ bw541) (fun _ h9 => h9) rfl dX11_constrain_1 ?_
  refine lv_iload_n hx hb dX11_constrain_4 rfl (lv_at hl 1 rfl) ?_
  refine xci (xRunV (rest := []) (As := [.int v1]) (C := RX10) (k := 1) C0 (c_X10_isThere l E g a v1) bw107 bw609 bw115 bw113 bw114 hd_X10_isThere ⟨Nat.le_of_ble_eq_true rfl, Nat.le_of_ble_eq_true rfl⟩ hP (wX_D hD) hS (va_recv hK hP (ci := 10) rfl (gx_4 E g a)) rfl hl.1 rfl (Nat.le_of_ble_eq_true rfl) dX11_constrain_5 ⟨Nat.zero_le _, Nat.zero_le _⟩) hS (fun H locs hP hS => ?_)
  refine lv_if_ne (tgt := 21) hx hb dX11_constrain_8 (by decide) (fun c1 => ?_) (fun c1 => ?_)
  · replace hf := (if_neg c1).symm.trans hf
    refine lv_aload_n hx hb dX11_constrain_21 rfl (lv_at hl 0 rfl) ?_
    refine lv_iload_n hx hb dX11_constrain_22 rfl (lv_at hl 2 rfl) ?_
    refine xci (xRunV (rest := []) (As := [.int v2]) (C := RX11) (k := 1) C0 (c_X11_isVariableOrNone l E g a v2) bw699 bw703 bw13 bw704 bw705 hd_X11_isVariableOrNone ⟨Nat.le_of_ble_eq_true rfl, Nat.le_of_ble_eq_true rfl⟩ hP (wX_D hD) hS (va_recv hK hP (ci := 11) rfl (gx_0 E g a)) rfl hl.1 rfl (Nat.le_of_ble_eq_true rfl) dX11_constrain_23 ⟨Nat.zero_le _, Nat.zero_le _⟩) hS (fun H locs hP hS => ?_)
    refine lv_if_eq (tgt := 46) hx hb dX11_constrain_26 (by decide) (fun c2 => ?_) (fun c2 => ?_)
    · replace hf := (if_pos c2).symm.trans hf
      exact B46 g a _ _ _ hP hS (lv_sub hl [] rfl) hf
    · replace hf := (if_neg c2).symm.trans hf
      refine lv_aload_n hx hb dX11_constrain_29 rfl (lv_at hl 0 rfl) ?_
      refine lv_iload_n hx hb dX11_constrain_30 rfl (lv_at hl 3 rfl) ?_
      refine xci (xRunV (rest := []) (As := [.int v3]) (C := RX11) (k := 1) C0 (c_X11_isVariableOrNone l E g a v3) bw699 bw703 bw13 bw704 bw705 hd_X11_isVariableOrNone ⟨Nat.le_of_ble_eq_true rfl, Nat.le_of_ble_eq_true rfl⟩ hP (wX_D hD) hS (va_recv hK hP (ci := 11) rfl (gx_0 E g a)) rfl hl.1 rfl (Nat.le_of_ble_eq_true rfl) dX11_constrain_31 ⟨Nat.zero_le _, Nat.zero_le _⟩) hS (fun H locs hP hS => ?_)
      refine lv_if_eq (tgt := 46) hx hb dX11_constrain_34 (by decide) (fun c3 => ?_) (fun c3 => ?_)
      · replace hf := (if_pos c3).symm.trans hf
        exact B46 g a _ _ _ hP hS (lv_sub hl [] rfl) hf
      · replace hf := (if_neg c3).symm.trans hf
        refine lv_aload_n hx hb dX11_constrain_37 rfl (lv_at hl 0 rfl) ?_
        refine lv_iload hx hb dX11_constrain_38 (lv_at hl 4 rfl) ?_
        refine xci (xRunV (rest := []) (As := [.int v4]) (C := RX11) (k := 1) C0 (c_X11_isVariableOrNone l E g a v4) bw699 bw703 bw13 bw704 bw705 hd_X11_isVariableOrNone ⟨Nat.le_of_ble_eq_true rfl, Nat.le_of_ble_eq_true rfl⟩ hP (wX_D hD) hS (va_recv hK hP (ci := 11) rfl (gx_0 E g a)) rfl hl.1 rfl (Nat.le_of_ble_eq_true rfl) dX11_constrain_40 ⟨Nat.zero_le _, Nat.zero_le _⟩) hS (fun H locs hP hS => ?_)
        refine lv_if_ne (tgt := 57) hx hb dX11_constrain_43 (by decide) (fun c4 => ?_) (fun c4 => ?_)
        · replace hf := (if_neg c4).symm.trans hf
          refine lv_aload_n hx hb dX11_constrain_57 rfl (lv_at hl 0 rfl) ?_
          refine va_get (C := RX11) (T := TX11) (N := 9) hx hb hw bfX110 hown hK hP 0 (gx_0 E g a) rfl 1 (by decide) (hw _ bw541) (fun _ h9 => h9) rfl dX11_constrain_58 ?_
          refine lv_iload_n hx hb dX11_constrain_61 rfl (lv_at hl 1 rfl) ?_
          refine xci (xRunV (rest := []) (As := [.int v1]) (C := RX10) (k := 1) C0 (c_X10_placesOf l E g a v1) bw117 bw610 bw115 bw133 bw134 hd_X10_placesOf ⟨Nat.le_of_ble_eq_true rfl, Nat.le_of_ble_eq_true rfl⟩ hP (wX_D hD) hS (va_recv hK hP (ci := 10) rfl (gx_4 E g a)) rfl hl.1 rfl (Nat.le_of_ble_eq_true rfl) dX11_constrain_62 ⟨Nat.zero_le _, Nat.zero_le _⟩) hS (fun H locs hP hS => ?_)
          refine lv_istore (lv' := [(5, .int (t_X10_placesOf g a v1)), (0, .ref (E.2.1 0)), (1, .int v1), (2, .int v2), (3, .int v3), (4, .int v4)]) hx hb dX11_constrain_65 hl (by decide) rfl (fun ls hl => ?_)
          refine lv_iload_n hx hb dX11_constrain_67 rfl (lv_at hl 3 rfl) ?_
          refine lv_iconst (v := (-1)) hx hb dX11_constrain_68 (by decide) ?_
          refine lv_icmp_eq (tgt := 121) hx hb dX11_constrain_69 (by decide) (fun c5 => ?_) (fun c5 => ?_)
          · replace hf := (if_pos c5).symm.trans hf
            exact B121 g a _ _ _ hP hS (lv_sub hl [] rfl) hf
          · replace hf := (if_neg c5).symm.trans hf
            refine lv_iload_n hx hb dX11_constrain_72 rfl (lv_at hl 4 rfl) ?_
            refine lv_iconst (v := (-1)) hx hb dX11_constrain_73 (by decide) ?_
            refine lv_icmp_ne (tgt := 81) hx hb dX11_constrain_74 (by decide) (fun c6 => ?_) (fun c6 => ?_)
            · replace hf := (if_neg c6).symm.trans hf
              refine lv_iconst (v := 0) hx hb dX11_constrain_81 (by decide) ?_
              exact B82 g a v1 v2 v3 v4 (t_X10_placesOf g a v1) 0 _ _ _ hP hS (lv_sub hl [1, 2, 3, 4, 5, 0] rfl) hf
            · replace hf := (if_pos c6).symm.trans hf
              refine lv_iconst (v := 1) hx hb dX11_constrain_77 (by decide) ?_
              refine lv_goto (tgt := 82) hx hb dX11_constrain_78 (by decide) ?_
              exact B82 g a v1 v2 v3 v4 (t_X10_placesOf g a v1) 1 _ _ _ hP hS (lv_sub hl [1, 2, 3, 4, 5, 0] rfl) hf
        · replace hf := (if_pos c4).symm.trans hf
          exact B46 g a _ _ _ hP hS (lv_sub hl [] rfl) hf
  · replace hf := (if_pos c1).symm.trans hf
    exact absurd (Option.some.inj hf) (by intro h; cases h)
set_option maxRecDepth 100000 in
set_option maxHeartbeats 40000000 in
theorem cr_X11_left (l : Launch) (E : xE) (g : xG) (a : xA) (v1 : Int32) {res : Int32 × xA} (hf : f_X11_left g a v1 = some (.inr res)) : xM l E yX11_left cX11_left 2 (some .int) 7 164 [.ref (E.2.1 0), .int v1] (wX E g a) (xQi E res.1 (wX E g res.2)) := by
  unfold f_X11_left at hf
  refine xM_of (by decide) (Nat.le_of_ble_eq_true rfl) ?_
  intro p e s m below meth c A hx hb hr hml hts hown hlocks hA hD hP hK hN hS ls hl
  have hw : ∀ w ∈ BW, w.before _ s = true := fun w h => hts w (List.mem_cons_of_mem _ h)
  have C0 : xCtx E p m c cX11_left 2 s _ RX11 A yX11_left cX11_left 2 (some .int) := ⟨hx, hb, hml, hown, hts, hA, hK, hN⟩
  have hl : lv_has ls 2 [(0, .ref (E.2.1 0)), (1, .int v1)] := hl
  refine lv_aload_n hx hb dX11_left_0 rfl (lv_at hl 0 rfl) ?_
  refine va_get (C := RX11) (T := TX11) (N := 9) hx hb hw bfX110 hown hK hP 0 (gx_0 E g a) rfl 7 (by decide) (hw _ bw544) (fun _ h9 => h9) rfl dX11_left_1 ?_
  refine lv_iload_n hx hb dX11_left_4 rfl (lv_at hl 1 rfl) ?_
  refine xci (xRunV (rest := []) (As := [.int v1]) (C := RX2) (k := 1) C0 (c_X2_isThere l E 1 (by decide) g a v1) bw208 bw700 bw86 bw701 bw702 hd_X2_isThere ⟨Nat.le_of_ble_eq_true rfl, Nat.le_of_ble_eq_true rfl⟩ hP (wX_D hD) hS (va_recv hK hP (ci := 2) rfl (gx_31 E g a)) rfl hl.1 rfl (Nat.le_of_ble_eq_true rfl) dX11_left_5 ⟨Nat.zero_le _, Nat.zero_le _⟩) hS (fun H locs hP hS => ?_)
  refine lv_if_ne (tgt := 22) hx hb dX11_left_8 (by decide) (fun c1 => ?_) (fun c1 => ?_)
  · replace hf := (if_neg c1).symm.trans hf
    refine lv_aload_n hx hb dX11_left_22 rfl (lv_at hl 0 rfl) ?_
    refine va_get (C := RX11) (T := TX11) (N := 9) hx hb hw bfX110 hown hK hP 0 (gx_0 E g a) rfl 7 (by decide) (hw _ bw544) (fun _ h9 => h9) rfl dX11_left_23 ?_
    refine lv_iload_n hx hb dX11_left_26 rfl (lv_at hl 1 rfl) ?_
    obtain ⟨u2, e3, hf⟩ := bd_some hf
    refine xci (xRunV (rest := []) (As := [.int v1]) (C := RX2) (k := 1) C0 (c_X2_valuesLeft l E 1 (by decide) g a v1 e3) bw245 bw720 bw86 bw721 bw722 hd_X2_valuesLeft ⟨Nat.le_of_ble_eq_true rfl, Nat.le_of_ble_eq_true rfl⟩ hP (wX_D hD) hS (va_recv hK hP (ci := 2) rfl (gx_31 E g a)) rfl hl.1 rfl (Nat.le_of_ble_eq_true rfl) dX11_left_27 ⟨Nat.zero_le _, Nat.zero_le _⟩) hS (fun H locs hP hS => ?_)
    exact xi_retS (fr := (fun r => r.1)) (fw := (fun r => wX E g r.2)) hx hb hr hlocks (Sum.inr.inj (Option.some.inj hf)) hP hS dX11_left_30
  · replace hf := (if_pos c1).symm.trans hf
    exact absurd (Option.some.inj hf) (by intro h; cases h)
set_option maxRecDepth 100000 in
set_option maxHeartbeats 40000000 in
theorem cr_X11_pairs (l : Launch) (E : xE) (g : xG) (a : xA) (v1 : Int32) (v2 : Int32) {res : Int32 × xA} (hf : f_X11_pairs g a v1 v2 = some (.inr res)) : xM l E yX11_pairs cX11_pairs 3 (some .int) 6 143 [.ref (E.2.1 0), .int v1, .int v2] (wX E g a) (xQi E res.1 (wX E g res.2)) := by
  unfold f_X11_pairs at hf
  refine xM_of (by decide) (Nat.le_of_ble_eq_true rfl) ?_
  intro p e s m below meth c A hx hb hr hml hts hown hlocks hA hD hP hK hN hS ls hl
  have hw : ∀ w ∈ BW, w.before _ s = true := fun w h => hts w (List.mem_cons_of_mem _ h)
  have C0 : xCtx E p m c cX11_pairs 3 s _ RX11 A yX11_pairs cX11_pairs 3 (some .int) := ⟨hx, hb, hml, hown, hts, hA, hK, hN⟩
  have hl : lv_has ls 3 [(0, .ref (E.2.1 0)), (1, .int v1), (2, .int v2)] := hl
  have B22 : ∀ (a : xA) (H : Heap) (locs : List Loc) (ls : Array Slot), va_P E.1 vwCl (wX E g a) H → va_S A s.heap H locs → lv_has ls 3 [] → f_X11_pairs_22 g a = some (.inr res) → W p l e ({ frames := 6, cells := 0, slots := 0, locals := 143 }) s m ([.ref (E.2.1 0), .int v1, .int v2] : List Value).toArray below meth c H locs 0 0 (MQ below ((xQi E res.1 (wX E g res.2)) A) ([.ref (E.2.1 0), .int v1, .int v2] : List Value).toArray s 0 0 A) (F0 m 22 ls []) := by
    intro a H locs ls hP hS hl hf
    unfold f_X11_pairs_22 at hf
    exact absurd (Option.some.inj hf) (by intro h; cases h)
  refine lv_aload_n hx hb dX11_pairs_0 rfl (lv_at hl 0 rfl) ?_
  refine va_get (C := RX11) (T := TX11) (N := 9) hx hb hw bfX110 hown hK hP 0 (gx_0 E g a) rfl 7 (by decide) (hw _ bw544) (fun _ h9 => h9) rfl dX11_pairs_1 ?_
  refine lv_iload_n hx hb dX11_pairs_4 rfl (lv_at hl 1 rfl) ?_
  refine xci (xRunV (rest := []) (As := [.int v1]) (C := RX2) (k := 1) C0 (c_X2_isThere l E 1 (by decide) g a v1) bw208 bw700 bw86 bw701 bw702 hd_X2_isThere ⟨Nat.le_of_ble_eq_true rfl, Nat.le_of_ble_eq_true rfl⟩ hP (wX_D hD) hS (va_recv hK hP (ci := 2) rfl (gx_31 E g a)) rfl hl.1 rfl (Nat.le_of_ble_eq_true rfl) dX11_pairs_5 ⟨Nat.zero_le _, Nat.zero_le _⟩) hS (fun H locs hP hS => ?_)
  refine lv_if_eq (tgt := 22) hx hb dX11_pairs_8 (by decide) (fun c1 => ?_) (fun c1 => ?_)
  · replace hf := (if_pos c1).symm.trans hf
    exact B22 a _ _ _ hP hS (lv_sub hl [] rfl) hf
  · replace hf := (if_neg c1).symm.trans hf
    refine lv_aload_n hx hb dX11_pairs_11 rfl (lv_at hl 0 rfl) ?_
    refine va_get (C := RX11) (T := TX11) (N := 9) hx hb hw bfX110 hown hK hP 0 (gx_0 E g a) rfl 7 (by decide) (hw _ bw544) (fun _ h9 => h9) rfl dX11_pairs_12 ?_
    refine lv_iload_n hx hb dX11_pairs_15 rfl (lv_at hl 2 rfl) ?_
    refine xci (xRunV (rest := []) (As := [.int v2]) (C := RX2) (k := 1) C0 (c_X2_isThere l E 1 (by decide) g a v2) bw208 bw700 bw86 bw701 bw702 hd_X2_isThere ⟨Nat.le_of_ble_eq_true rfl, Nat.le_of_ble_eq_true rfl⟩ hP (wX_D hD) hS (va_recv hK hP (ci := 2) rfl (gx_31 E g a)) rfl hl.1 rfl (Nat.le_of_ble_eq_true rfl) dX11_pairs_16 ⟨Nat.zero_le _, Nat.zero_le _⟩) hS (fun H locs hP hS => ?_)
    refine lv_if_ne (tgt := 33) hx hb dX11_pairs_19 (by decide) (fun c2 => ?_) (fun c2 => ?_)
    · replace hf := (if_neg c2).symm.trans hf
      refine lv_iload_n hx hb dX11_pairs_33 rfl (lv_at hl 1 rfl) ?_
      refine lv_iload_n hx hb dX11_pairs_34 rfl (lv_at hl 2 rfl) ?_
      refine lv_icmp_ne (tgt := 49) hx hb dX11_pairs_35 (by decide) (fun c3 => ?_) (fun c3 => ?_)
      · replace hf := (if_neg c3).symm.trans hf
        refine lv_aload_n hx hb dX11_pairs_49 rfl (lv_at hl 0 rfl) ?_
        refine va_get (C := RX11) (T := TX11) (N := 9) hx hb hw bfX110 hown hK hP 0 (gx_0 E g a) rfl 8 (by decide) (hw _ bw575) (fun _ h9 => h9) rfl dX11_pairs_50 ?_
        refine lv_iload_n hx hb dX11_pairs_53 rfl (lv_at hl 1 rfl) ?_
        refine lv_iload_n hx hb dX11_pairs_54 rfl (lv_at hl 2 rfl) ?_
        obtain ⟨u4, e5, hf⟩ := bd_some hf
        refine xci (xRunV (rest := []) (As := [.int v1, .int v2]) (C := RX7) (k := 2) C0 (c_X7_ofVariables l E g a v1 v2 e5) bw525 bw724 bw493 bw725 bw726 hd_X7_ofVariables ⟨Nat.le_of_ble_eq_true rfl, Nat.le_of_ble_eq_true rfl⟩ hP (wX_D hD) hS (va_recv hK hP (ci := 7) rfl (gx_38 E g a)) rfl hl.1 rfl (Nat.le_of_ble_eq_true rfl) dX11_pairs_55 ⟨Nat.zero_le _, Nat.zero_le _⟩) hS (fun H locs hP hS => ?_)
        exact xi_retS (fr := (fun r => r.1)) (fw := (fun r => wX E g r.2)) hx hb hr hlocks (Sum.inr.inj (Option.some.inj hf)) hP hS dX11_pairs_58
      · replace hf := (if_pos c3).symm.trans hf
        exact absurd (Option.some.inj hf) (by intro h; cases h)
    · replace hf := (if_pos c2).symm.trans hf
      exact B22 a _ _ _ hP hS (lv_sub hl [] rfl) hf
