/-! X4_spread, X0_beginChoices, X0_stepOn, X0_nextColumns, X5_placeCount, X4_onPlace, X5_answerTuple, X0_images, X4_power, X0_strays, X0_closure, X2_begin, X9_signAt, X9_isVariable, X4_widest, X1_takesInHead, X10_isThere, X1_takesAtBeginningOfAtom, X1_takesJust, X10_placesOf, X2_placesOf, X2_variableOn, X2_lowestVariable, X2_add, X1_takesVariable, X1_takes, X1_read, X4_allValues -/
def t_X4_spread (g : xG) (a : xA) (v1 : Int32) : Int32 := (atF 27 (a 3) v1)
set_option maxRecDepth 100000 in
set_option maxHeartbeats 40000000 in
theorem c_X4_spread (l : Launch) (E : xE) (g : xG) (a : xA) (v1 : Int32) : xM l E yX4_spread cX4_spread 2 (some .int) 1 21 [.ref (E.2.1 1), .int v1] (wX E g a) (xQi E (t_X4_spread g a v1) (wX E g a)) := by
  obtain ⟨res, hres⟩ : ∃ z, z = t_X4_spread g a v1 := ⟨_, rfl⟩
  rw [← hres]
  have hf : _ = res := hres.symm
  unfold t_X4_spread at hf
  refine xM_of (by decide) (Nat.le_of_ble_eq_true rfl) ?_
  intro p e s m below meth c A hx hb hr hml hts hown hlocks hA hD hP hK hN hS ls hl
  have hw : ∀ w ∈ BW, w.before _ s = true := fun w h => hts w (List.mem_cons_of_mem _ h)
  have C0 : xCtx E p m c cX4_spread 2 s _ RX4 A yX4_spread cX4_spread 2 (some .int) := ⟨hx, hb, hml, hown, hts, hA, hK, hN⟩
  have hl : lv_has ls 2 [(0, .ref (E.2.1 1)), (1, .int v1)] := hl
  refine lv_aload_n hx hb dX4_spread_0 rfl (lv_at hl 0 rfl) ?_
  refine va_get (C := RX4) (T := TX4) (N := 3) hx hb hw bfX40 hown hK hP 1 (gx_1 E g a) rfl 2 (by decide) (hw _ bw11) (fun _ h9 => h9) rfl dX4_spread_1 ?_
  refine lv_iload_n hx hb dX4_spread_4 rfl (lv_at hl 1 rfl) ?_
  refine xci (xRunN (rest := []) (As := [.ref (E.2.1 3), .int v1]) (k := 2) C0 (c_at l E (wX E g a) 3 v1 (gx_3 E g a) (Nat.le_of_ble_eq_true rfl)) bw9 nw11 bw13 bw12 hd_X11_at ⟨Nat.le_of_ble_eq_true rfl, Nat.le_of_ble_eq_true rfl⟩ hP (wX_D hD) hS rfl hl.1 rfl (Nat.le_of_ble_eq_true rfl) dX4_spread_5 ⟨Nat.zero_le _, Nat.zero_le _⟩) hS (fun H locs hP hS => ?_)
  exact xi_retS (fr := (fun r => r)) (fw := (fun r => wX E g a)) hx hb hr hlocks hf hP hS dX4_spread_8
def f_X0_beginChoices_66 : Nat → xG → xA → Int32 → Int32 → Option (Int32 × xG × xA)
  | 0, _, _, _, _ => none
  | n + 1, g, a, x3, x4 => (if (g 3) ≤ x4 then some (x3, g, a) else f_X0_beginChoices_66 n g (upA a 9 (putF 3 (a 9) x4 0)) (x3 * (g 2)) (x4 + 1))
theorem e_X0_beginChoices_66 (n : Nat) (g : xG) (a : xA) (x3 : Int32) (x4 : Int32) : f_X0_beginChoices_66 (n + 1) g a x3 x4 = (if (g 3) ≤ x4 then some (x3, g, a) else f_X0_beginChoices_66 n g (upA a 9 (putF 3 (a 9) x4 0)) (x3 * (g 2)) (x4 + 1)) := rfl
def f_X0_beginChoices_7 : Nat → xG → xA → Int32 → Int32 → Int32 → Option (Int32 × xG × xA)
  | 0, _, _, _, _, _ => none
  | n + 1, g, a, x1, x2, x3 => (if 27 ≤ x3 then f_X0_beginChoices_66 fu (upd g 3 x1) a 1 0 else (if (isInF x3 x2) = 0 then f_X0_beginChoices_7 n g a x1 x2 (x3 + 1) else f_X0_beginChoices_7 n (upd g 2 ((g 2) + 1)) (upA a 8 (putF 27 (a 8) (g 2) (t_X4_spread g a x3))) x1 x2 (x3 + 1)))
theorem e_X0_beginChoices_7 (n : Nat) (g : xG) (a : xA) (x1 : Int32) (x2 : Int32) (x3 : Int32) : f_X0_beginChoices_7 (n + 1) g a x1 x2 x3 = (if 27 ≤ x3 then f_X0_beginChoices_66 fu (upd g 3 x1) a 1 0 else (if (isInF x3 x2) = 0 then f_X0_beginChoices_7 n g a x1 x2 (x3 + 1) else f_X0_beginChoices_7 n (upd g 2 ((g 2) + 1)) (upA a 8 (putF 27 (a 8) (g 2) (t_X4_spread g a x3))) x1 x2 (x3 + 1))) := rfl
def f_X0_beginChoices (g : xG) (a : xA) (v1 : Int32) (v2 : Int32) : Option (Int32 × xG × xA) := f_X0_beginChoices_7 fu (upd g 2 0) a v1 v2 0
set_option maxRecDepth 100000 in
set_option maxHeartbeats 40000000 in
theorem c_X0_beginChoices (l : Launch) (E : xE) (g : xG) (a : xA) (v1 : Int32) (v2 : Int32) {res : Int32 × xG × xA} (hf : f_X0_beginChoices g a v1 v2 = some res) : xM l E yX0_beginChoices cX0_beginChoices 5 (some .int) 2 42 [.ref (E.2.1 7), .int v1, .int v2] (wX E g a) (xQi E res.1 (wX E res.2.1 res.2.2)) := by
  unfold f_X0_beginChoices at hf
  refine xM_of (by decide) (Nat.le_of_ble_eq_true rfl) ?_
  intro p e s m below meth c A hx hb hr hml hts hown hlocks hA hD hP hK hN hS ls hl
  have hw : ∀ w ∈ BW, w.before _ s = true := fun w h => hts w (List.mem_cons_of_mem _ h)
  have C0 : xCtx E p m c cX0_beginChoices 5 s _ RX0 A yX0_beginChoices cX0_beginChoices 5 (some .int) := ⟨hx, hb, hml, hown, hts, hA, hK, hN⟩
  have hl : lv_has ls 5 [(0, .ref (E.2.1 7)), (1, .int v1), (2, .int v2)] := hl
  have B66 : ∀ (n : Nat) (g : xG) (a : xA) (x3 : Int32) (x4 : Int32) (H : Heap) (locs : List Loc) (ls : Array Slot), va_P E.1 vwCl (wX E g a) H → va_S A s.heap H locs → lv_has ls 5 [(0, .ref (E.2.1 7)), (3, .int x3), (4, .int x4)] → f_X0_beginChoices_66 n g a x3 x4 = some res → W p l e ({ frames := 2, cells := 0, slots := 0, locals := 42 }) s m ([.ref (E.2.1 7), .int v1, .int v2] : List Value).toArray below meth c H locs 0 0 (MQ below ((xQi E res.1 (wX E res.2.1 res.2.2)) A) ([.ref (E.2.1 7), .int v1, .int v2] : List Value).toArray s 0 0 A) (F0 m 66 ls []) := by
    intro n
    induction n with
    | zero => intro g a x3 x4 H locs ls hP hS hl hf; exact absurd (show (none : Option (Int32 × xG × xA)) = some res from hf) (by intro h; cases h)
    | succ n ih =>
      intro g a x3 x4 H locs ls hP hS hl hf
      replace hf := (e_X0_beginChoices_66 n g a x3 x4).symm.trans hf
      refine lv_iload hx hb dX0_beginChoices_66 (lv_at hl 2 rfl) ?_
      refine lv_aload_n hx hb dX0_beginChoices_68 rfl (lv_at hl 0 rfl) ?_
      refine va_get (C := RX0) (T := TX0) (N := 5) hx hb hw bfX00 hown hK hP 7 (gx_7 E g a) rfl 4 (by decide) (hw _ bw17) (fun _ h9 => h9) rfl dX0_beginChoices_69 ?_
      refine lv_icmp_ge (tgt := 98) hx hb dX0_beginChoices_72 (by decide) (fun c3 => ?_) (fun c3 => ?_)
      · replace hf := (if_pos c3).symm.trans hf
        refine lv_iload_n hx hb dX0_beginChoices_98 rfl (lv_at hl 1 rfl) ?_
        exact xi_retS (fr := (fun r => r.1)) (fw := (fun r => wX E r.2.1 r.2.2)) hx hb hr hlocks (Option.some.inj hf) hP hS dX0_beginChoices_99
      · replace hf := (if_neg c3).symm.trans hf
        refine lv_aload_n hx hb dX0_beginChoices_75 rfl (lv_at hl 0 rfl) ?_
        refine va_get (C := RX0) (T := TX0) (N := 5) hx hb hw bfX00 hown hK hP 7 (gx_7 E g a) rfl 2 (by decide) (hw _ bw6) (fun _ h9 => h9) rfl dX0_beginChoices_76 ?_
        refine lv_iload hx hb dX0_beginChoices_79 (lv_at hl 2 rfl) ?_
        refine lv_iconst (v := 0) hx hb dX0_beginChoices_81 (by decide) ?_
        refine xcv (xRunN (rest := []) (As := [.ref (E.2.1 9), .int x4, .int 0]) (k := 3) C0 (c_put l E (wX E g a) 9 x4 0 (gx_9 E g a) (Nat.le_of_ble_eq_true rfl) (sx_a9 E g a (putF 3 (a 9) x4 0))) bw14 nw3 bw13 bw23 hd_X11_put ⟨Nat.le_of_ble_eq_true rfl, Nat.le_of_ble_eq_true rfl⟩ hP (wX_D hD) hS rfl hl.1 rfl (Nat.le_of_ble_eq_true rfl) dX0_beginChoices_82 ⟨Nat.zero_le _, Nat.zero_le _⟩) hS (fun H locs hP hS => ?_)
        refine lv_iload_n hx hb dX0_beginChoices_85 rfl (lv_at hl 1 rfl) ?_
        refine lv_aload_n hx hb dX0_beginChoices_86 rfl (lv_at hl 0 rfl) ?_
        refine va_get (C := RX0) (T := TX0) (N := 5) hx hb hw bfX00 hown hK hP 7 (gx_7 E g (upA a 9 (putF 3 (a 9) x4 0))) rfl 3 (by decide) (hw _ bw16) (fun _ h9 => h9) rfl dX0_beginChoices_87 ?_
        refine lv_imul hx hb dX0_beginChoices_90 ?_
        refine lv_istore_n (lv' := [(3, .int (x3 * (g 2))), (0, .ref (E.2.1 7)), (4, .int x4)]) hx hb dX0_beginChoices_91 rfl hl (by decide) rfl (fun ls hl => ?_)
        refine lv_iinc (v := (x4 + 1)) (lv' := [(4, .int (x4 + 1)), (3, .int (x3 * (g 2))), (0, .ref (E.2.1 7))]) hx hb dX0_beginChoices_92 hl (k := 2) rfl rfl (by decide) rfl (fun ls hl => ?_)
        refine lv_goto (tgt := 66) hx hb dX0_beginChoices_95 (by decide) ?_
        exact ih g (upA a 9 (putF 3 (a 9) x4 0)) (x3 * (g 2)) (x4 + 1) _ _ _ hP hS (lv_sub hl [2, 1, 0] rfl) hf
  have B7 : ∀ (n : Nat) (g : xG) (a : xA) (x1 : Int32) (x2 : Int32) (x3 : Int32) (H : Heap) (locs : List Loc) (ls : Array Slot), va_P E.1 vwCl (wX E g a) H → va_S A s.heap H locs → lv_has ls 5 [(0, .ref (E.2.1 7)), (1, .int x1), (2, .int x2), (3, .int x3)] → f_X0_beginChoices_7 n g a x1 x2 x3 = some res → W p l e ({ frames := 2, cells := 0, slots := 0, locals := 42 }) s m ([.ref (E.2.1 7), .int v1, .int v2] : List Value).toArray below meth c H locs 0 0 (MQ below ((xQi E res.1 (wX E res.2.1 res.2.2)) A) ([.ref (E.2.1 7), .int v1, .int v2] : List Value).toArray s 0 0 A) (F0 m 7 ls []) := by
    intro n
    induction n with
    | zero => intro g a x1 x2 x3 H locs ls hP hS hl hf; exact absurd (show (none : Option (Int32 × xG × xA)) = some res from hf) (by intro h; cases h)
    | succ n ih =>
      intro g a x1 x2 x3 H locs ls hP hS hl hf
      replace hf := (e_X0_beginChoices_7 n g a x1 x2 x3).symm.trans hf
      refine lv_iload_n hx hb dX0_beginChoices_7 rfl (lv_at hl 3 rfl) ?_
      refine lv_bipush (v := 27) hx hb dX0_beginChoices_8 (by decide) ?_
      refine lv_icmp_ge (tgt := 56) hx hb dX0_beginChoices_10 (by decide) (fun c1 => ?_) (fun c1 => ?_)
      · replace hf := (if_pos c1).symm.trans hf
        refine lv_aload_n hx hb dX0_beginChoices_56 rfl (lv_at hl 0 rfl) ?_
        refine lv_iload_n hx hb dX0_beginChoices_57 rfl (lv_at hl 1 rfl) ?_
        refine va_put (v := .int x1) (ty := .int) (C := RX0) (T := TX0) (N := 5) hx hb hw bfX00 tyX0 tyX0_ok nmX0 hown hK hP (wX_D hD) hS 7 (gx_7 E g a) rfl 4 (by decide) (hw _ bw17) (fun _ h9 => h9) rfl (by decide +kernel) rfl rfl (Nat.le_of_ble_eq_true rfl) dX0_beginChoices_58 (fun H locs hP _ hS => ?_)
        have hP := xP_eq (sx_g3 E g a x1) hP
        refine lv_iconst (v := 1) hx hb dX0_beginChoices_61 (by decide) ?_
        refine lv_istore_n (lv' := [(3, .int 1), (0, .ref (E.2.1 7)), (1, .int x1), (2, .int x2)]) hx hb dX0_beginChoices_62 rfl hl (by decide) rfl (fun ls hl => ?_)
        refine lv_iconst (v := 0) hx hb dX0_beginChoices_63 (by decide) ?_
        refine lv_istore (lv' := [(4, .int 0), (3, .int 1), (0, .ref (E.2.1 7)), (1, .int x1), (2, .int x2)]) hx hb dX0_beginChoices_64 hl (by decide) rfl (fun ls hl => ?_)
        exact B66 fu (upd g 3 x1) a 1 0 _ _ _ hP hS (lv_sub hl [2, 1, 0] rfl) hf
      · replace hf := (if_neg c1).symm.trans hf
        refine lv_iload_n hx hb dX0_beginChoices_13 rfl (lv_at hl 3 rfl) ?_
        refine lv_iload_n hx hb dX0_beginChoices_14 rfl (lv_at hl 2 rfl) ?_
        refine xci (xRunN (rest := []) (As := [.int x3, .int x2]) (k := 2) C0 (c_isIn l E (wX E g a) x3 x2) bw8 nw2 bw13 bw18 hd_X11_isIn ⟨Nat.le_of_ble_eq_true rfl, Nat.le_of_ble_eq_true rfl⟩ hP (wX_D hD) hS rfl hl.1 rfl (Nat.le_of_ble_eq_true rfl) dX0_beginChoices_15 ⟨Nat.zero_le _, Nat.zero_le _⟩) hS (fun H locs hP hS => ?_)
        refine lv_if_eq (tgt := 50) hx hb dX0_beginChoices_18 (by decide) (fun c2 => ?_) (fun c2 => ?_)
        · replace hf := (if_pos c2).symm.trans hf
          refine lv_iinc (v := (x3 + 1)) (lv' := [(3, .int (x3 + 1)), (0, .ref (E.2.1 7)), (1, .int x1), (2, .int x2)]) hx hb dX0_beginChoices_50 hl (k := 3) rfl rfl (by decide) rfl (fun ls hl => ?_)
          refine lv_goto (tgt := 7) hx hb dX0_beginChoices_53 (by decide) ?_
          exact ih g a x1 x2 (x3 + 1) _ _ _ hP hS (lv_sub hl [1, 2, 3, 0] rfl) hf
        · replace hf := (if_neg c2).symm.trans hf
          refine lv_aload_n hx hb dX0_beginChoices_21 rfl (lv_at hl 0 rfl) ?_
          refine va_get (C := RX0) (T := TX0) (N := 5) hx hb hw bfX00 hown hK hP 7 (gx_7 E g a) rfl 1 (by decide) (hw _ bw5) (fun _ h9 => h9) rfl dX0_beginChoices_22 ?_
          refine lv_aload_n hx hb dX0_beginChoices_25 rfl (lv_at hl 0 rfl) ?_
          refine va_get (C := RX0) (T := TX0) (N := 5) hx hb hw bfX00 hown hK hP 7 (gx_7 E g a) rfl 3 (by decide) (hw _ bw16) (fun _ h9 => h9) rfl dX0_beginChoices_26 ?_
          refine lv_aload_n hx hb dX0_beginChoices_29 rfl (lv_at hl 0 rfl) ?_
          refine va_get (C := RX0) (T := TX0) (N := 5) hx hb hw bfX00 hown hK hP 7 (gx_7 E g a) rfl 0 (by decide) (hw _ bw7) (fun _ h9 => h9) rfl dX0_beginChoices_30 ?_
          refine lv_iload_n hx hb dX0_beginChoices_33 rfl (lv_at hl 3 rfl) ?_
          refine xci (xRunV (rest := [.int (g 2), .ref (E.2.1 8)]) (As := [.int x3]) (C := RX4) (k := 1) C0 (c_X4_spread l E g a x3) bw10 bw19 bw22 bw20 bw21 hd_X4_spread ⟨Nat.le_of_ble_eq_true rfl, Nat.le_of_ble_eq_true rfl⟩ hP (wX_D hD) hS (va_recv hK hP (ci := 4) rfl (gx_1 E g a)) rfl hl.1 rfl (Nat.le_of_ble_eq_true rfl) dX0_beginChoices_34 ⟨Nat.zero_le _, Nat.zero_le _⟩) hS (fun H locs hP hS => ?_)
          refine xcv (xRunN (rest := []) (As := [.ref (E.2.1 8), .int (g 2), .int (t_X4_spread g a x3)]) (k := 3) C0 (c_put l E (wX E g a) 8 (g 2) (t_X4_spread g a x3) (gx_8 E g a) (Nat.le_of_ble_eq_true rfl) (sx_a8 E g a (putF 27 (a 8) (g 2) (t_X4_spread g a x3)))) bw14 nw3 bw13 bw23 hd_X11_put ⟨Nat.le_of_ble_eq_true rfl, Nat.le_of_ble_eq_true rfl⟩ hP (wX_D hD) hS rfl hl.1 rfl (Nat.le_of_ble_eq_true rfl) dX0_beginChoices_37 ⟨Nat.zero_le _, Nat.zero_le _⟩) hS (fun H locs hP hS => ?_)
          refine lv_aload_n hx hb dX0_beginChoices_40 rfl (lv_at hl 0 rfl) ?_
          refine lv_dup hx hb dX0_beginChoices_41 rfl ?_
          refine va_get (C := RX0) (T := TX0) (N := 5) hx hb hw bfX00 hown hK hP 7 (gx_7 E g (upA a 8 (putF 27 (a 8) (g 2) (t_X4_spread g a x3)))) rfl 3 (by decide) (hw _ bw16) (fun _ h9 => h9) rfl dX0_beginChoices_42 ?_
          refine lv_iconst (v := 1) hx hb dX0_beginChoices_45 (by decide) ?_
          refine lv_iadd hx hb dX0_beginChoices_46 ?_
          refine va_put (v := .int ((g 2) + 1)) (ty := .int) (C := RX0) (T := TX0) (N := 5) hx hb hw bfX00 tyX0 tyX0_ok nmX0 hown hK hP (wX_D hD) hS 7 (gx_7 E g (upA a 8 (putF 27 (a 8) (g 2) (t_X4_spread g a x3)))) rfl 3 (by decide) (hw _ bw16) (fun _ h9 => h9) rfl (by decide +kernel) rfl rfl (Nat.le_of_ble_eq_true rfl) dX0_beginChoices_47 (fun H locs hP _ hS => ?_)
          have hP := xP_eq (sx_g2 E g (upA a 8 (putF 27 (a 8) (g 2) (t_X4_spread g a x3))) ((g 2) + 1)) hP
          refine lv_iinc (v := (x3 + 1)) (lv' := [(3, .int (x3 + 1)), (0, .ref (E.2.1 7)), (1, .int x1), (2, .int x2)]) hx hb dX0_beginChoices_50 hl (k := 3) rfl rfl (by decide) rfl (fun ls hl => ?_)
          refine lv_goto (tgt := 7) hx hb dX0_beginChoices_53 (by decide) ?_
          exact ih (upd g 2 ((g 2) + 1)) (upA a 8 (putF 27 (a 8) (g 2) (t_X4_spread g a x3))) x1 x2 (x3 + 1) _ _ _ hP hS (lv_sub hl [1, 2, 3, 0] rfl) hf
  refine lv_aload_n hx hb dX0_beginChoices_0 rfl (lv_at hl 0 rfl) ?_
  refine lv_iconst (v := 0) hx hb dX0_beginChoices_1 (by decide) ?_
  refine va_put (v := .int 0) (ty := .int) (C := RX0) (T := TX0) (N := 5) hx hb hw bfX00 tyX0 tyX0_ok nmX0 hown hK hP (wX_D hD) hS 7 (gx_7 E g a) rfl 3 (by decide) (hw _ bw16) (fun _ h9 => h9) rfl (by decide +kernel) rfl rfl (Nat.le_of_ble_eq_true rfl) dX0_beginChoices_2 (fun H locs hP _ hS => ?_)
  have hP := xP_eq (sx_g2 E g a 0) hP
  refine lv_iconst (v := 0) hx hb dX0_beginChoices_5 (by decide) ?_
  refine lv_istore_n (lv' := [(3, .int 0), (0, .ref (E.2.1 7)), (1, .int v1), (2, .int v2)]) hx hb dX0_beginChoices_6 rfl hl (by decide) rfl (fun ls hl => ?_)
  exact B7 fu (upd g 2 0) a v1 v2 0 _ _ _ hP hS (lv_sub hl [1, 2, 3, 0] rfl) hf
def f_X0_stepOn_2 (g : xG) : Nat → xA → Int32 → Option (xA)
  | 0, _, _ => none
  | n + 1, a, x1 => (if (g 3) ≤ x1 then some a else (if (g 2) ≤ ((atF 3 (a 9) x1) + 1) then f_X0_stepOn_2 g n (upA a 9 (putF 3 (a 9) x1 0)) (x1 + 1) else some (upA a 9 (putF 3 (a 9) x1 ((atF 3 (a 9) x1) + 1)))))
theorem e_X0_stepOn_2 (g : xG) (n : Nat) (a : xA) (x1 : Int32) : f_X0_stepOn_2 g (n + 1) a x1 = (if (g 3) ≤ x1 then some a else (if (g 2) ≤ ((atF 3 (a 9) x1) + 1) then f_X0_stepOn_2 g n (upA a 9 (putF 3 (a 9) x1 0)) (x1 + 1) else some (upA a 9 (putF 3 (a 9) x1 ((atF 3 (a 9) x1) + 1))))) := rfl
def f_X0_stepOn (g : xG) (a : xA) : Option (xA) := f_X0_stepOn_2 g fu a 0
set_option maxRecDepth 100000 in
set_option maxHeartbeats 40000000 in
theorem c_X0_stepOn (l : Launch) (E : xE) (g : xG) (a : xA) {res : xA} (hf : f_X0_stepOn g a = some res) : xM l E yX0_stepOn cX0_stepOn 3 none 1 22 [.ref (E.2.1 7)] (wX E g a) (xQv E (wX E g res)) := by
  unfold f_X0_stepOn at hf
  refine xM_of (by decide) (Nat.le_of_ble_eq_true rfl) ?_
  intro p e s m below meth c A hx hb hr hml hts hown hlocks hA hD hP hK hN hS ls hl
  have hw : ∀ w ∈ BW, w.before _ s = true := fun w h => hts w (List.mem_cons_of_mem _ h)
  have C0 : xCtx E p m c cX0_stepOn 3 s _ RX0 A yX0_stepOn cX0_stepOn 3 none := ⟨hx, hb, hml, hown, hts, hA, hK, hN⟩
  have hl : lv_has ls 3 [(0, .ref (E.2.1 7))] := hl
  have B2 : ∀ (n : Nat) (a : xA) (x1 : Int32) (H : Heap) (locs : List Loc) (ls : Array Slot), va_P E.1 vwCl (wX E g a) H → va_S A s.heap H locs → lv_has ls 3 [(0, .ref (E.2.1 7)), (1, .int x1)] → f_X0_stepOn_2 g n a x1 = some res → W p l e ({ frames := 1, cells := 0, slots := 0, locals := 22 }) s m ([.ref (E.2.1 7)] : List Value).toArray below meth c H locs 0 0 (MQ below ((xQv E (wX E g res)) A) ([.ref (E.2.1 7)] : List Value).toArray s 0 0 A) (F0 m 2 ls []) := by
    intro n
    induction n with
    | zero => intro a x1 H locs ls hP hS hl hf; exact absurd (show (none : Option (xA)) = some res from hf) (by intro h; cases h)
    | succ n ih =>
      intro a x1 H locs ls hP hS hl hf
      replace hf := (e_X0_stepOn_2 g n a x1).symm.trans hf
      refine lv_iload_n hx hb dX0_stepOn_2 rfl (lv_at hl 1 rfl) ?_
      refine lv_aload_n hx hb dX0_stepOn_3 rfl (lv_at hl 0 rfl) ?_
      refine va_get (C := RX0) (T := TX0) (N := 5) hx hb hw bfX00 hown hK hP 7 (gx_7 E g a) rfl 4 (by decide) (hw _ bw17) (fun _ h9 => h9) rfl dX0_stepOn_4 ?_
      refine lv_icmp_ge (tgt := 54) hx hb dX0_stepOn_7 (by decide) (fun c1 => ?_) (fun c1 => ?_)
      · replace hf := (if_pos c1).symm.trans hf
        exact xv_retS (fw := (fun r => wX E g r)) hx hb hr hlocks (Option.some.inj hf) hP hS dX0_stepOn_54
      · replace hf := (if_neg c1).symm.trans hf
        refine lv_aload_n hx hb dX0_stepOn_10 rfl (lv_at hl 0 rfl) ?_
        refine va_get (C := RX0) (T := TX0) (N := 5) hx hb hw bfX00 hown hK hP 7 (gx_7 E g a) rfl 2 (by decide) (hw _ bw6) (fun _ h9 => h9) rfl dX0_stepOn_11 ?_
        refine lv_iload_n hx hb dX0_stepOn_14 rfl (lv_at hl 1 rfl) ?_
        refine xci (xRunN (rest := []) (As := [.ref (E.2.1 9), .int x1]) (k := 2) C0 (c_at l E (wX E g a) 9 x1 (gx_9 E g a) (Nat.le_of_ble_eq_true rfl)) bw9 nw4 bw13 bw12 hd_X11_at ⟨Nat.le_of_ble_eq_true rfl, Nat.le_of_ble_eq_true rfl⟩ hP (wX_D hD) hS rfl hl.1 rfl (Nat.le_of_ble_eq_true rfl) dX0_stepOn_15 ⟨Nat.zero_le _, Nat.zero_le _⟩) hS (fun H locs hP hS => ?_)
        refine lv_iconst (v := 1) hx hb dX0_stepOn_18 (by decide) ?_
        refine lv_iadd hx hb dX0_stepOn_19 ?_
        refine lv_istore_n (lv' := [(2, .int ((atF 3 (a 9) x1) + 1)), (0, .ref (E.2.1 7)), (1, .int x1)]) hx hb dX0_stepOn_20 rfl hl (by decide) rfl (fun ls hl => ?_)
        refine lv_iload_n hx hb dX0_stepOn_21 rfl (lv_at hl 0 rfl) ?_
        refine lv_aload_n hx hb dX0_stepOn_22 rfl (lv_at hl 1 rfl) ?_
        refine va_get (C := RX0) (T := TX0) (N := 5) hx hb hw bfX00 hown hK hP 7 (gx_7 E g a) rfl 3 (by decide) (hw _ bw16) (fun _ h9 => h9) rfl dX0_stepOn_23 ?_
        refine lv_icmp_ge (tgt := 39) hx hb dX0_stepOn_26 (by decide) (fun c2 => ?_) (fun c2 => ?_)
        · replace hf := (if_pos c2).symm.trans hf
          refine lv_aload_n hx hb dX0_stepOn_39 rfl (lv_at hl 1 rfl) ?_
          refine va_get (C := RX0) (T := TX0) (N := 5) hx hb hw bfX00 hown hK hP 7 (gx_7 E g a) rfl 2 (by decide) (hw _ bw6) (fun _ h9 => h9) rfl dX0_stepOn_40 ?_
          refine lv_iload_n hx hb dX0_stepOn_43 rfl (lv_at hl 2 rfl) ?_
          refine lv_iconst (v := 0) hx hb dX0_stepOn_44 (by decide) ?_
          refine xcv (xRunN (rest := []) (As := [.ref (E.2.1 9), .int x1, .int 0]) (k := 3) C0 (c_put l E (wX E g a) 9 x1 0 (gx_9 E g a) (Nat.le_of_ble_eq_true rfl) (sx_a9 E g a (putF 3 (a 9) x1 0))) bw14 nw3 bw13 bw23 hd_X11_put ⟨Nat.le_of_ble_eq_true rfl, Nat.le_of_ble_eq_true rfl⟩ hP (wX_D hD) hS rfl hl.1 rfl (Nat.le_of_ble_eq_true rfl) dX0_stepOn_45 ⟨Nat.zero_le _, Nat.zero_le _⟩) hS (fun H locs hP hS => ?_)
          refine lv_iinc (v := (x1 + 1)) (lv' := [(1, .int (x1 + 1)), (2, .int ((atF 3 (a 9) x1) + 1)), (0, .ref (E.2.1 7))]) hx hb dX0_stepOn_48 hl (k := 2) rfl rfl (by decide) rfl (fun ls hl => ?_)
          refine lv_goto (tgt := 2) hx hb dX0_stepOn_51 (by decide) ?_
          exact ih (upA a 9 (putF 3 (a 9) x1 0)) (x1 + 1) _ _ _ hP hS (lv_sub hl [2, 0] rfl) hf
        · replace hf := (if_neg c2).symm.trans hf
          refine lv_aload_n hx hb dX0_stepOn_29 rfl (lv_at hl 1 rfl) ?_
          refine va_get (C := RX0) (T := TX0) (N := 5) hx hb hw bfX00 hown hK hP 7 (gx_7 E g a) rfl 2 (by decide) (hw _ bw6) (fun _ h9 => h9) rfl dX0_stepOn_30 ?_
          refine lv_iload_n hx hb dX0_stepOn_33 rfl (lv_at hl 2 rfl) ?_
          refine lv_iload_n hx hb dX0_stepOn_34 rfl (lv_at hl 0 rfl) ?_
          refine xcv (xRunN (rest := []) (As := [.ref (E.2.1 9), .int x1, .int ((atF 3 (a 9) x1) + 1)]) (k := 3) C0 (c_put l E (wX E g a) 9 x1 ((atF 3 (a 9) x1) + 1) (gx_9 E g a) (Nat.le_of_ble_eq_true rfl) (sx_a9 E g a (putF 3 (a 9) x1 ((atF 3 (a 9) x1) + 1)))) bw14 nw3 bw13 bw23 hd_X11_put ⟨Nat.le_of_ble_eq_true rfl, Nat.le_of_ble_eq_true rfl⟩ hP (wX_D hD) hS rfl hl.1 rfl (Nat.le_of_ble_eq_true rfl) dX0_stepOn_35 ⟨Nat.zero_le _, Nat.zero_le _⟩) hS (fun H locs hP hS => ?_)
          exact xv_retS (fw := (fun r => wX E g r)) hx hb hr hlocks (Option.some.inj hf) hP hS dX0_stepOn_38
  refine lv_iconst (v := 0) hx hb dX0_stepOn_0 (by decide) ?_
  refine lv_istore_n (lv' := [(1, .int 0), (0, .ref (E.2.1 7))]) hx hb dX0_stepOn_1 rfl hl (by decide) rfl (fun ls hl => ?_)
  exact B2 fu a 0 _ _ _ hP hS (lv_sub hl [1, 0] rfl) hf
def f_X0_nextColumns_9 (g : xG) : Nat → xA → Int32 → Int32 → Option (Int32 × xA)
  | 0, _, _, _ => none
  | n + 1, a, x1, x2 => (if x2 < 0 then Option.bind (f_X0_stepOn g a) (fun u2 => some (x1, u2)) else f_X0_nextColumns_9 g n a ((x1 * (g 0)) + (atF 27 (a 8) (atF 3 (a 9) x2))) (x2 + (-1)))
theorem e_X0_nextColumns_9 (g : xG) (n : Nat) (a : xA) (x1 : Int32) (x2 : Int32) : f_X0_nextColumns_9 g (n + 1) a x1 x2 = (if x2 < 0 then Option.bind (f_X0_stepOn g a) (fun u2 => some (x1, u2)) else f_X0_nextColumns_9 g n a ((x1 * (g 0)) + (atF 27 (a 8) (atF 3 (a 9) x2))) (x2 + (-1))) := rfl
def f_X0_nextColumns (g : xG) (a : xA) : Option (Int32 × xA) := f_X0_nextColumns_9 g fu a 0 ((g 3) - 1)
set_option maxRecDepth 100000 in
set_option maxHeartbeats 40000000 in
theorem c_X0_nextColumns (l : Launch) (E : xE) (g : xG) (a : xA) {res : Int32 × xA} (hf : f_X0_nextColumns g a = some res) : xM l E yX0_nextColumns cX0_nextColumns 3 (some .int) 2 44 [.ref (E.2.1 7)] (wX E g a) (xQi E res.1 (wX E g res.2)) := by
  unfold f_X0_nextColumns at hf
  refine xM_of (by decide) (Nat.le_of_ble_eq_true rfl) ?_
  intro p e s m below meth c A hx hb hr hml hts hown hlocks hA hD hP hK hN hS ls hl
  have hw : ∀ w ∈ BW, w.before _ s = true := fun w h => hts w (List.mem_cons_of_mem _ h)
  have C0 : xCtx E p m c cX0_nextColumns 3 s _ RX0 A yX0_nextColumns cX0_nextColumns 3 (some .int) := ⟨hx, hb, hml, hown, hts, hA, hK, hN⟩
  have hl : lv_has ls 3 [(0, .ref (E.2.1 7))] := hl
  have B9 : ∀ (n : Nat) (a : xA) (x1 : Int32) (x2 : Int32) (H : Heap) (locs : List Loc) (ls : Array Slot), va_P E.1 vwCl (wX E g a) H → va_S A s.heap H locs → lv_has ls 3 [(0, .ref (E.2.1 7)), (1, .int x1), (2, .int x2)] → f_X0_nextColumns_9 g n a x1 x2 = some res → W p l e ({ frames := 2, cells := 0, slots := 0, locals := 44 }) s m ([.ref (E.2.1 7)] : List Value).toArray below meth c H locs 0 0 (MQ below ((xQi E res.1 (wX E g res.2)) A) ([.ref (E.2.1 7)] : List Value).toArray s 0 0 A) (F0 m 9 ls []) := by
    intro n
    induction n with
    | zero => intro a x1 x2 H locs ls hP hS hl hf; exact absurd (show (none : Option (Int32 × xA)) = some res from hf) (by intro h; cases h)
    | succ n ih =>
      intro a x1 x2 H locs ls hP hS hl hf
      replace hf := (e_X0_nextColumns_9 g n a x1 x2).symm.trans hf
      refine lv_iload_n hx hb dX0_nextColumns_9 rfl (lv_at hl 2 rfl) ?_
      refine lv_if_lt (tgt := 45) hx hb dX0_nextColumns_10 (by decide) (fun c1 => ?_) (fun c1 => ?_)
      · replace hf := (if_pos c1).symm.trans hf
        refine lv_aload_n hx hb dX0_nextColumns_45 rfl (lv_at hl 0 rfl) ?_
        obtain ⟨u2, e3, hf⟩ := bd_some hf
        refine xcv (xRunV (rest := []) (As := []) (C := RX0) (k := 0) C0 (c_X0_stepOn l E g a e3) bw24 bw27 bw30 bw28 bw29 hd_X0_stepOn ⟨Nat.le_of_ble_eq_true rfl, Nat.le_of_ble_eq_true rfl⟩ hP (wX_D hD) hS (va_recv hK hP (ci := 0) rfl (gx_7 E g a)) rfl hl.1 rfl (Nat.le_of_ble_eq_true rfl) dX0_nextColumns_46 ⟨Nat.zero_le _, Nat.zero_le _⟩) hS (fun H locs hP hS => ?_)
        refine lv_iload_n hx hb dX0_nextColumns_49 rfl (lv_at hl 1 rfl) ?_
        exact xi_retS (fr := (fun r => r.1)) (fw := (fun r => wX E g r.2)) hx hb hr hlocks (Option.some.inj hf) hP hS dX0_nextColumns_50
      · replace hf := (if_neg c1).symm.trans hf
        refine lv_iload_n hx hb dX0_nextColumns_13 rfl (lv_at hl 1 rfl) ?_
        refine lv_aload_n hx hb dX0_nextColumns_14 rfl (lv_at hl 0 rfl) ?_
        refine va_get (C := RX0) (T := TX0) (N := 5) hx hb hw bfX00 hown hK hP 7 (gx_7 E g a) rfl 0 (by decide) (hw _ bw7) (fun _ h9 => h9) rfl dX0_nextColumns_15 ?_
        refine va_get (C := RX4) (T := TX4) (N := 3) hx hb hw bfX40 hown hK hP 1 (gx_1 E g a) rfl 0 (by decide) (hw _ bw26) (fun _ h9 => h9) rfl dX0_nextColumns_18 ?_
        refine lv_imul hx hb dX0_nextColumns_21 ?_
        refine lv_aload_n hx hb dX0_nextColumns_22 rfl (lv_at hl 0 rfl) ?_
        refine va_get (C := RX0) (T := TX0) (N := 5) hx hb hw bfX00 hown hK hP 7 (gx_7 E g a) rfl 1 (by decide) (hw _ bw5) (fun _ h9 => h9) rfl dX0_nextColumns_23 ?_
        refine lv_aload_n hx hb dX0_nextColumns_26 rfl (lv_at hl 0 rfl) ?_
        refine va_get (C := RX0) (T := TX0) (N := 5) hx hb hw bfX00 hown hK hP 7 (gx_7 E g a) rfl 2 (by decide) (hw _ bw6) (fun _ h9 => h9) rfl dX0_nextColumns_27 ?_
        refine lv_iload_n hx hb dX0_nextColumns_30 rfl (lv_at hl 2 rfl) ?_
        refine xci (xRunN (rest := [.ref (E.2.1 8), .int (x1 * (g 0))]) (As := [.ref (E.2.1 9), .int x2]) (k := 2) C0 (c_at l E (wX E g a) 9 x2 (gx_9 E g a) (Nat.le_of_ble_eq_true rfl)) bw9 nw4 bw13 bw12 hd_X11_at ⟨Nat.le_of_ble_eq_true rfl, Nat.le_of_ble_eq_true rfl⟩ hP (wX_D hD) hS rfl hl.1 rfl (Nat.le_of_ble_eq_true rfl) dX0_nextColumns_31 ⟨Nat.zero_le _, Nat.zero_le _⟩) hS (fun H locs hP hS => ?_)
        refine xci (xRunN (rest := [.int (x1 * (g 0))]) (As := [.ref (E.2.1 8), .int (atF 3 (a 9) x2)]) (k := 2) C0 (c_at l E (wX E g a) 8 (atF 3 (a 9) x2) (gx_8 E g a) (Nat.le_of_ble_eq_true rfl)) bw9 nw4 bw13 bw12 hd_X11_at ⟨Nat.le_of_ble_eq_true rfl, Nat.le_of_ble_eq_true rfl⟩ hP (wX_D hD) hS rfl hl.1 rfl (Nat.le_of_ble_eq_true rfl) dX0_nextColumns_34 ⟨Nat.zero_le _, Nat.zero_le _⟩) hS (fun H locs hP hS => ?_)
        refine lv_iadd hx hb dX0_nextColumns_37 ?_
        refine lv_istore_n (lv' := [(1, .int ((x1 * (g 0)) + (atF 27 (a 8) (atF 3 (a 9) x2)))), (0, .ref (E.2.1 7)), (2, .int x2)]) hx hb dX0_nextColumns_38 rfl hl (by decide) rfl (fun ls hl => ?_)
        refine lv_iinc (v := (x2 + (-1))) (lv' := [(2, .int (x2 + (-1))), (1, .int ((x1 * (g 0)) + (atF 27 (a 8) (atF 3 (a 9) x2)))), (0, .ref (E.2.1 7))]) hx hb dX0_nextColumns_39 hl (k := 2) rfl rfl (by decide) rfl (fun ls hl => ?_)
        refine lv_goto (tgt := 9) hx hb dX0_nextColumns_42 (by decide) ?_
        exact ih a ((x1 * (g 0)) + (atF 27 (a 8) (atF 3 (a 9) x2))) (x2 + (-1)) _ _ _ hP hS (lv_sub hl [2, 1, 0] rfl) hf
  refine lv_iconst (v := 0) hx hb dX0_nextColumns_0 (by decide) ?_
  refine lv_istore_n (lv' := [(1, .int 0), (0, .ref (E.2.1 7))]) hx hb dX0_nextColumns_1 rfl hl (by decide) rfl (fun ls hl => ?_)
  refine lv_aload_n hx hb dX0_nextColumns_2 rfl (lv_at hl 1 rfl) ?_
  refine va_get (C := RX0) (T := TX0) (N := 5) hx hb hw bfX00 hown hK hP 7 (gx_7 E g a) rfl 4 (by decide) (hw _ bw17) (fun _ h9 => h9) rfl dX0_nextColumns_3 ?_
  refine lv_iconst (v := 1) hx hb dX0_nextColumns_6 (by decide) ?_
  refine lv_isub hx hb dX0_nextColumns_7 ?_
  refine lv_istore_n (lv' := [(2, .int ((g 3) - 1)), (1, .int 0), (0, .ref (E.2.1 7))]) hx hb dX0_nextColumns_8 rfl hl (by decide) rfl (fun ls hl => ?_)
  exact B9 fu a 0 ((g 3) - 1) _ _ _ hP hS (lv_sub hl [2, 1, 0] rfl) hf
def t_X5_placeCount (k : Nat) (g : xG) (a : xA) : Int32 := (g (15 + k))
set_option maxRecDepth 100000 in
set_option maxHeartbeats 40000000 in
theorem c_X5_placeCount (l : Launch) (E : xE) (k : Nat) (hk : k < 7) (g : xG) (a : xA) : xM l E yX5_placeCount cX5_placeCount 1 (some .int) 0 0 [.ref (E.2.1 (40 + k))] (wX E g a) (xQi E (t_X5_placeCount k g a) (wX E g a)) := by
  obtain ⟨res, hres⟩ : ∃ z, z = t_X5_placeCount k g a := ⟨_, rfl⟩
  rw [← hres]
  have hf : _ = res := hres.symm
  unfold t_X5_placeCount at hf
  refine xM_of (by decide) (Nat.le_of_ble_eq_true rfl) ?_
  intro p e s m below meth c A hx hb hr hml hts hown hlocks hA hD hP hK hN hS ls hl
  have hw : ∀ w ∈ BW, w.before _ s = true := fun w h => hts w (List.mem_cons_of_mem _ h)
  have C0 : xCtx E p m c cX5_placeCount 1 s _ RX5 A yX5_placeCount cX5_placeCount 1 (some .int) := ⟨hx, hb, hml, hown, hts, hA, hK, hN⟩
  have hl : lv_has ls 1 [(0, .ref (E.2.1 (40 + k)))] := hl
  refine lv_aload_n hx hb dX5_placeCount_0 rfl (lv_at hl 0 rfl) ?_
  refine va_get (C := RX5) (T := TX5) (N := 3) hx hb hw bfX50 hown hK hP (40 + k) (gx_op E g a k hk) rfl 1 (by decide) (hw _ bw32) (fun _ h9 => h9) rfl dX5_placeCount_1 ?_
  exact xi_retS (fr := (fun r => r)) (fw := (fun r => wX E g a)) hx hb hr hlocks hf hP hS dX5_placeCount_4
def t_X4_onPlace (g : xG) (a : xA) (v1 : Int32) (v2 : Int32) : Int32 := (((v1 : Int32) >>> ((5 * v2) &&& 31)) &&& 31)
set_option maxRecDepth 100000 in
set_option maxHeartbeats 40000000 in
theorem c_X4_onPlace (l : Launch) (E : xE) (g : xG) (a : xA) (v1 : Int32) (v2 : Int32) : xM l E yX4_onPlace cX4_onPlace 3 (some .int) 0 0 [.ref (E.2.1 1), .int v1, .int v2] (wX E g a) (xQi E (t_X4_onPlace g a v1 v2) (wX E g a)) := by
  obtain ⟨res, hres⟩ : ∃ z, z = t_X4_onPlace g a v1 v2 := ⟨_, rfl⟩
  rw [← hres]
  have hf : _ = res := hres.symm
  unfold t_X4_onPlace at hf
  refine xM_of (by decide) (Nat.le_of_ble_eq_true rfl) ?_
  intro p e s m below meth c A hx hb hr hml hts hown hlocks hA hD hP hK hN hS ls hl
  have hw : ∀ w ∈ BW, w.before _ s = true := fun w h => hts w (List.mem_cons_of_mem _ h)
  have C0 : xCtx E p m c cX4_onPlace 3 s _ RX4 A yX4_onPlace cX4_onPlace 3 (some .int) := ⟨hx, hb, hml, hown, hts, hA, hK, hN⟩
  have hl : lv_has ls 3 [(0, .ref (E.2.1 1)), (1, .int v1), (2, .int v2)] := hl
  refine lv_iload_n hx hb dX4_onPlace_0 rfl (lv_at hl 1 rfl) ?_
  refine lv_iconst (v := 5) hx hb dX4_onPlace_1 (by decide) ?_
  refine lv_iload_n hx hb dX4_onPlace_2 rfl (lv_at hl 2 rfl) ?_
  refine lv_imul hx hb dX4_onPlace_3 ?_
  refine lv_ishr hx hb dX4_onPlace_4 ?_
  refine lv_bipush (v := 31) hx hb dX4_onPlace_5 (by decide) ?_
  refine lv_iand hx hb dX4_onPlace_7 ?_
  exact xi_retS (fr := (fun r => r)) (fw := (fun r => wX E g a)) hx hb hr hlocks hf hP hS dX4_onPlace_8
def f_X5_answerTuple_7 (k : Nat) (g : xG) (a : xA) : Nat → Int32 → Int32 → Int32 → Option (Int32)
  | 0, _, _, _ => none
  | n + 1, x1, x3, x4 => (if x4 < 0 then some x3 else f_X5_answerTuple_7 k g a n x1 ((x3 * (g 0)) + (atF 32 (a (47 + k)) (t_X4_onPlace g a x1 x4))) (x4 + (-1)))
theorem e_X5_answerTuple_7 (k : Nat) (g : xG) (a : xA) (n : Nat) (x1 : Int32) (x3 : Int32) (x4 : Int32) : f_X5_answerTuple_7 k g a (n + 1) x1 x3 x4 = (if x4 < 0 then some x3 else f_X5_answerTuple_7 k g a n x1 ((x3 * (g 0)) + (atF 32 (a (47 + k)) (t_X4_onPlace g a x1 x4))) (x4 + (-1))) := rfl
def f_X5_answerTuple (k : Nat) (g : xG) (a : xA) (v1 : Int32) (v2 : Int32) : Option (Int32) := f_X5_answerTuple_7 k g a fu v1 0 (v2 - 1)
set_option maxRecDepth 100000 in
set_option maxHeartbeats 40000000 in
theorem c_X5_answerTuple (l : Launch) (E : xE) (k : Nat) (hk : k < 7) (g : xG) (a : xA) (v1 : Int32) (v2 : Int32) {res : Int32} (hf : f_X5_answerTuple k g a v1 v2 = some res) : xM l E yX5_answerTuple cX5_answerTuple 5 (some .int) 1 22 [.ref (E.2.1 (40 + k)), .int v1, .int v2] (wX E g a) (xQi E res (wX E g a)) := by
  unfold f_X5_answerTuple at hf
  refine xM_of (by decide) (Nat.le_of_ble_eq_true rfl) ?_
  intro p e s m below meth c A hx hb hr hml hts hown hlocks hA hD hP hK hN hS ls hl
  have hw : ∀ w ∈ BW, w.before _ s = true := fun w h => hts w (List.mem_cons_of_mem _ h)
  have C0 : xCtx E p m c cX5_answerTuple 5 s _ RX5 A yX5_answerTuple cX5_answerTuple 5 (some .int) := ⟨hx, hb, hml, hown, hts, hA, hK, hN⟩
  have hl : lv_has ls 5 [(0, .ref (E.2.1 (40 + k))), (1, .int v1), (2, .int v2)] := hl
  have B7 : ∀ (n : Nat) (x1 : Int32) (x3 : Int32) (x4 : Int32) (H : Heap) (locs : List Loc) (ls : Array Slot), va_P E.1 vwCl (wX E g a) H → va_S A s.heap H locs → lv_has ls 5 [(0, .ref (E.2.1 (40 + k))), (1, .int x1), (3, .int x3), (4, .int x4)] → f_X5_answerTuple_7 k g a n x1 x3 x4 = some res → W p l e ({ frames := 1, cells := 0, slots := 0, locals := 22 }) s m ([.ref (E.2.1 (40 + k)), .int v1, .int v2] : List Value).toArray below meth c H locs 0 0 (MQ below ((xQi E res (wX E g a)) A) ([.ref (E.2.1 (40 + k)), .int v1, .int v2] : List Value).toArray s 0 0 A) (F0 m 7 ls []) := by
    intro n
    induction n with
    | zero => intro x1 x3 x4 H locs ls hP hS hl hf; exact absurd (show (none : Option (Int32)) = some res from hf) (by intro h; cases h)
    | succ n ih =>
      intro x1 x3 x4 H locs ls hP hS hl hf
      replace hf := (e_X5_answerTuple_7 k g a n x1 x3 x4).symm.trans hf
      refine lv_iload hx hb dX5_answerTuple_7 (lv_at hl 3 rfl) ?_
      refine lv_if_lt (tgt := 46) hx hb dX5_answerTuple_9 (by decide) (fun c1 => ?_) (fun c1 => ?_)
      · replace hf := (if_pos c1).symm.trans hf
        refine lv_iload_n hx hb dX5_answerTuple_46 rfl (lv_at hl 2 rfl) ?_
        exact xi_retS (fr := (fun r => r)) (fw := (fun r => wX E g a)) hx hb hr hlocks (Option.some.inj hf) hP hS dX5_answerTuple_47
      · replace hf := (if_neg c1).symm.trans hf
        refine lv_iload_n hx hb dX5_answerTuple_12 rfl (lv_at hl 2 rfl) ?_
        refine lv_aload_n hx hb dX5_answerTuple_13 rfl (lv_at hl 0 rfl) ?_
        refine va_get (C := RX5) (T := TX5) (N := 3) hx hb hw bfX50 hown hK hP (40 + k) (gx_op E g a k hk) rfl 0 (by decide) (hw _ bw35) (fun _ h9 => h9) rfl dX5_answerTuple_14 ?_
        refine va_get (C := RX4) (T := TX4) (N := 3) hx hb hw bfX40 hown hK hP 1 (gx_1 E g a) rfl 0 (by decide) (hw _ bw36) (fun _ h9 => h9) rfl dX5_answerTuple_17 ?_
        refine lv_imul hx hb dX5_answerTuple_20 ?_
        refine lv_aload_n hx hb dX5_answerTuple_21 rfl (lv_at hl 0 rfl) ?_
        refine va_get (C := RX5) (T := TX5) (N := 3) hx hb hw bfX50 hown hK hP (40 + k) (gx_op E g a k hk) rfl 2 (by decide) (hw _ bw37) (fun _ h9 => h9) rfl dX5_answerTuple_22 ?_
        refine lv_aload_n hx hb dX5_answerTuple_25 rfl (lv_at hl 0 rfl) ?_
        refine va_get (C := RX5) (T := TX5) (N := 3) hx hb hw bfX50 hown hK hP (40 + k) (gx_op E g a k hk) rfl 0 (by decide) (hw _ bw35) (fun _ h9 => h9) rfl dX5_answerTuple_26 ?_
        refine lv_iload_n hx hb dX5_answerTuple_29 rfl (lv_at hl 1 rfl) ?_
        refine lv_iload hx hb dX5_answerTuple_30 (lv_at hl 3 rfl) ?_
        refine xci (xRunV (rest := [.ref (E.2.1 (47 + k)), .int (x3 * (g 0))]) (As := [.int x1, .int x4]) (C := RX4) (k := 2) C0 (c_X4_onPlace l E g a x1 x4) bw33 bw38 bw22 bw39 bw40 hd_X4_onPlace ⟨Nat.le_of_ble_eq_true rfl, Nat.le_of_ble_eq_true rfl⟩ hP (wX_D hD) hS (va_recv hK hP (ci := 4) rfl (gx_1 E g a)) rfl hl.1 rfl (Nat.le_of_ble_eq_true rfl) dX5_answerTuple_32 ⟨Nat.zero_le _, Nat.zero_le _⟩) hS (fun H locs hP hS => ?_)
        refine xci (xRunN (rest := [.int (x3 * (g 0))]) (As := [.ref (E.2.1 (47 + k)), .int (t_X4_onPlace g a x1 x4)]) (k := 2) C0 (c_at l E (wX E g a) (47 + k) (t_X4_onPlace g a x1 x4) (gx_oa E g a k hk) (Nat.le_of_ble_eq_true rfl)) bw9 nw12 bw13 bw12 hd_X11_at ⟨Nat.le_of_ble_eq_true rfl, Nat.le_of_ble_eq_true rfl⟩ hP (wX_D hD) hS rfl hl.1 rfl (Nat.le_of_ble_eq_true rfl) dX5_answerTuple_35 ⟨Nat.zero_le _, Nat.zero_le _⟩) hS (fun H locs hP hS => ?_)
        refine lv_iadd hx hb dX5_answerTuple_38 ?_
        refine lv_istore_n (lv' := [(3, .int ((x3 * (g 0)) + (atF 32 (a (47 + k)) (t_X4_onPlace g a x1 x4)))), (0, .ref (E.2.1 (40 + k))), (1, .int x1), (4, .int x4)]) hx hb dX5_answerTuple_39 rfl hl (by decide) rfl (fun ls hl => ?_)
        refine lv_iinc (v := (x4 + (-1))) (lv' := [(4, .int (x4 + (-1))), (3, .int ((x3 * (g 0)) + (atF 32 (a (47 + k)) (t_X4_onPlace g a x1 x4)))), (0, .ref (E.2.1 (40 + k))), (1, .int x1)]) hx hb dX5_answerTuple_40 hl (k := 3) rfl rfl (by decide) rfl (fun ls hl => ?_)
        refine lv_goto (tgt := 7) hx hb dX5_answerTuple_43 (by decide) ?_
        exact ih x1 ((x3 * (g 0)) + (atF 32 (a (47 + k)) (t_X4_onPlace g a x1 x4))) (x4 + (-1)) _ _ _ hP hS (lv_sub hl [2, 3, 1, 0] rfl) hf
  refine lv_iconst (v := 0) hx hb dX5_answerTuple_0 (by decide) ?_
  refine lv_istore_n (lv' := [(3, .int 0), (0, .ref (E.2.1 (40 + k))), (1, .int v1), (2, .int v2)]) hx hb dX5_answerTuple_1 rfl hl (by decide) rfl (fun ls hl => ?_)
  refine lv_iload_n hx hb dX5_answerTuple_2 rfl (lv_at hl 3 rfl) ?_
  refine lv_iconst (v := 1) hx hb dX5_answerTuple_3 (by decide) ?_
  refine lv_isub hx hb dX5_answerTuple_4 ?_
  refine lv_istore (lv' := [(4, .int (v2 - 1)), (3, .int 0), (0, .ref (E.2.1 (40 + k))), (1, .int v1), (2, .int v2)]) hx hb dX5_answerTuple_5 hl (by decide) rfl (fun ls hl => ?_)
  exact B7 fu v1 0 (v2 - 1) _ _ _ hP hS (lv_sub hl [2, 3, 1, 0] rfl) hf
def f_X0_images_14 (k : Nat) : Nat → xG → xA → Int32 → Int32 → Int32 → Option (Int32 × xG × xA)
  | 0, _, _, _, _, _ => none
  | n + 1, g, a, x2, x4, x5 => (if x5 ≤ 0 then some (x4, g, a) else Option.bind (f_X0_nextColumns g a) (fun u4 => Option.bind (f_X5_answerTuple k g u4.2 u4.1 x2) (fun u6 => f_X0_images_14 k n g u4.2 x2 (x4 ||| ((1 : Int32) <<< (u6 &&& 31))) (x5 + (-1)))))
theorem e_X0_images_14 (k : Nat) (n : Nat) (g : xG) (a : xA) (x2 : Int32) (x4 : Int32) (x5 : Int32) : f_X0_images_14 k (n + 1) g a x2 x4 x5 = (if x5 ≤ 0 then some (x4, g, a) else Option.bind (f_X0_nextColumns g a) (fun u4 => Option.bind (f_X5_answerTuple k g u4.2 u4.1 x2) (fun u6 => f_X0_images_14 k n g u4.2 x2 (x4 ||| ((1 : Int32) <<< (u6 &&& 31))) (x5 + (-1))))) := rfl
def f_X0_images (k : Nat) (g : xG) (a : xA) (v2 : Int32) (v3 : Int32) : Option (Int32 × xG × xA) := Option.bind (f_X0_beginChoices g a (t_X5_placeCount k g a) v3) (fun u1 => f_X0_images_14 k fu u1.2.1 u1.2.2 v2 0 u1.1)
set_option maxRecDepth 100000 in
set_option maxHeartbeats 40000000 in
theorem c_X0_images (l : Launch) (E : xE) (k : Nat) (hk : k < 7) (g : xG) (a : xA) (v2 : Int32) (v3 : Int32) {res : Int32 × xG × xA} (hf : f_X0_images k g a v2 v3 = some res) : xM l E yX0_images cX0_images 6 (some .int) 3 66 [.ref (E.2.1 7), .ref (E.2.1 (40 + k)), .int v2, .int v3] (wX E g a) (xQi E res.1 (wX E res.2.1 res.2.2)) := by
  unfold f_X0_images at hf
  refine xM_of (by decide) (Nat.le_of_ble_eq_true rfl) ?_
  intro p e s m below meth c A hx hb hr hml hts hown hlocks hA hD hP hK hN hS ls hl
  have hw : ∀ w ∈ BW, w.before _ s = true := fun w h => hts w (List.mem_cons_of_mem _ h)
  have C0 : xCtx E p m c cX0_images 6 s _ RX0 A yX0_images cX0_images 6 (some .int) := ⟨hx, hb, hml, hown, hts, hA, hK, hN⟩
  have hl : lv_has ls 6 [(0, .ref (E.2.1 7)), (1, .ref (E.2.1 (40 + k))), (2, .int v2), (3, .int v3)] := hl
  have B14 : ∀ (n : Nat) (g : xG) (a : xA) (x2 : Int32) (x4 : Int32) (x5 : Int32) (H : Heap) (locs : List Loc) (ls : Array Slot), va_P E.1 vwCl (wX E g a) H → va_S A s.heap H locs → lv_has ls 6 [(0, .ref (E.2.1 7)), (1, .ref (E.2.1 (40 + k))), (2, .int x2), (4, .int x4), (5, .int x5)] → f_X0_images_14 k n g a x2 x4 x5 = some res → W p l e ({ frames := 3, cells := 0, slots := 0, locals := 66 }) s m ([.ref (E.2.1 7), .ref (E.2.1 (40 + k)), .int v2, .int v3] : List Value).toArray below meth c H locs 0 0 (MQ below ((xQi E res.1 (wX E res.2.1 res.2.2)) A) ([.ref (E.2.1 7), .ref (E.2.1 (40 + k)), .int v2, .int v3] : List Value).toArray s 0 0 A) (F0 m 14 ls []) := by
    intro n
    induction n with
    | zero => intro g a x2 x4 x5 H locs ls hP hS hl hf; exact absurd (show (none : Option (Int32 × xG × xA)) = some res from hf) (by intro h; cases h)
    | succ n ih =>
      intro g a x2 x4 x5 H locs ls hP hS hl hf
      replace hf := (e_X0_images_14 k n g a x2 x4 x5).symm.trans hf
      refine lv_iload hx hb dX0_images_14 (lv_at hl 4 rfl) ?_
      refine lv_if_le (tgt := 41) hx hb dX0_images_16 (by decide) (fun c3 => ?_) (fun c3 => ?_)
      · replace hf := (if_pos c3).symm.trans hf
        refine lv_iload hx hb dX0_images_41 (lv_at hl 3 rfl) ?_
        exact xi_retS (fr := (fun r => r.1)) (fw := (fun r => wX E r.2.1 r.2.2)) hx hb hr hlocks (Option.some.inj hf) hP hS dX0_images_43
      · replace hf := (if_neg c3).symm.trans hf
        refine lv_iload hx hb dX0_images_19 (lv_at hl 3 rfl) ?_
        refine lv_iconst (v := 1) hx hb dX0_images_21 (by decide) ?_
        refine lv_aload_n hx hb dX0_images_22 rfl (lv_at hl 1 rfl) ?_
        refine lv_aload_n hx hb dX0_images_23 rfl (lv_at hl 0 rfl) ?_
        obtain ⟨u4, e5, hf⟩ := bd_some hf
        refine xci (xRunV (rest := [.ref (E.2.1 (40 + k)), .int 1, .int x4]) (As := []) (C := RX0) (k := 0) C0 (c_X0_nextColumns l E g a e5) bw25 bw48 bw30 bw49 bw50 hd_X0_nextColumns ⟨Nat.le_of_ble_eq_true rfl, Nat.le_of_ble_eq_true rfl⟩ hP (wX_D hD) hS (va_recv hK hP (ci := 0) rfl (gx_7 E g a)) rfl hl.1 rfl (Nat.le_of_ble_eq_true rfl) dX0_images_24 ⟨Nat.zero_le _, Nat.zero_le _⟩) hS (fun H locs hP hS => ?_)
        refine lv_iload_n hx hb dX0_images_27 rfl (lv_at hl 2 rfl) ?_
        obtain ⟨u6, e7, hf⟩ := bd_some hf
        refine xci (xRunV (rest := [.int 1, .int x4]) (As := [.int u4.1, .int x2]) (C := RX5) (k := 2) C0 (c_X5_answerTuple l E k hk g u4.2 u4.1 x2 e7) bw34 bw51 bw44 bw52 bw53 hd_X5_answerTuple ⟨Nat.le_of_ble_eq_true rfl, Nat.le_of_ble_eq_true rfl⟩ hP (wX_D hD) hS (va_recv hK hP (ci := 5) rfl (gx_op E g u4.2 k hk)) rfl hl.1 rfl (Nat.le_of_ble_eq_true rfl) dX0_images_28 ⟨Nat.zero_le _, Nat.zero_le _⟩) hS (fun H locs hP hS => ?_)
        refine lv_ishl hx hb dX0_images_31 ?_
        refine lv_ior hx hb dX0_images_32 ?_
        refine lv_istore (lv' := [(4, .int (x4 ||| ((1 : Int32) <<< (u6 &&& 31)))), (0, .ref (E.2.1 7)), (1, .ref (E.2.1 (40 + k))), (2, .int x2), (5, .int x5)]) hx hb dX0_images_33 hl (by decide) rfl (fun ls hl => ?_)
        refine lv_iinc (v := (x5 + (-1))) (lv' := [(5, .int (x5 + (-1))), (4, .int (x4 ||| ((1 : Int32) <<< (u6 &&& 31)))), (0, .ref (E.2.1 7)), (1, .ref (E.2.1 (40 + k))), (2, .int x2)]) hx hb dX0_images_35 hl (k := 4) rfl rfl (by decide) rfl (fun ls hl => ?_)
        refine lv_goto (tgt := 14) hx hb dX0_images_38 (by decide) ?_
        exact ih g u4.2 x2 (x4 ||| ((1 : Int32) <<< (u6 &&& 31))) (x5 + (-1)) _ _ _ hP hS (lv_sub hl [2, 3, 4, 1, 0] rfl) hf
  refine lv_iconst (v := 0) hx hb dX0_images_0 (by decide) ?_
  refine lv_istore (lv' := [(4, .int 0), (0, .ref (E.2.1 7)), (1, .ref (E.2.1 (40 + k))), (2, .int v2), (3, .int v3)]) hx hb dX0_images_1 hl (by decide) rfl (fun ls hl => ?_)
  refine lv_aload_n hx hb dX0_images_3 rfl (lv_at hl 1 rfl) ?_
  refine lv_aload_n hx hb dX0_images_4 rfl (lv_at hl 2 rfl) ?_
  refine xci (xRunV (rest := [.ref (E.2.1 7)]) (As := []) (C := RX5) (k := 0) C0 (c_X5_placeCount l E k hk g a) bw31 bw41 bw44 bw42 bw43 hd_X5_placeCount ⟨Nat.le_of_ble_eq_true rfl, Nat.le_of_ble_eq_true rfl⟩ hP (wX_D hD) hS (va_recv hK hP (ci := 5) rfl (gx_op E g a k hk)) rfl hl.1 rfl (Nat.le_of_ble_eq_true rfl) dX0_images_5 ⟨Nat.zero_le _, Nat.zero_le _⟩) hS (fun H locs hP hS => ?_)
  refine lv_iload_n hx hb dX0_images_8 rfl (lv_at hl 4 rfl) ?_
  obtain ⟨u1, e2, hf⟩ := bd_some hf
  refine xci (xRunV (rest := []) (As := [.int (t_X5_placeCount k g a), .int v3]) (C := RX0) (k := 2) C0 (c_X0_beginChoices l E g a (t_X5_placeCount k g a) v3 e2) bw15 bw45 bw30 bw46 bw47 hd_X0_beginChoices ⟨Nat.le_of_ble_eq_true rfl, Nat.le_of_ble_eq_true rfl⟩ hP (wX_D hD) hS (va_recv hK hP (ci := 0) rfl (gx_7 E g a)) rfl hl.1 rfl (Nat.le_of_ble_eq_true rfl) dX0_images_9 ⟨Nat.zero_le _, Nat.zero_le _⟩) hS (fun H locs hP hS => ?_)
  refine lv_istore (lv' := [(5, .int u1.1), (4, .int 0), (0, .ref (E.2.1 7)), (1, .ref (E.2.1 (40 + k))), (2, .int v2), (3, .int v3)]) hx hb dX0_images_12 hl (by decide) rfl (fun ls hl => ?_)
  exact B14 fu u1.2.1 u1.2.2 v2 0 u1.1 _ _ _ hP hS (lv_sub hl [2, 3, 4, 1, 0] rfl) hf
def t_X4_power (g : xG) (a : xA) (v1 : Int32) : Int32 := (atF 7 (a 2) v1)
set_option maxRecDepth 100000 in
set_option maxHeartbeats 40000000 in
theorem c_X4_power (l : Launch) (E : xE) (g : xG) (a : xA) (v1 : Int32) : xM l E yX4_power cX4_power 2 (some .int) 1 21 [.ref (E.2.1 1), .int v1] (wX E g a) (xQi E (t_X4_power g a v1) (wX E g a)) := by
  obtain ⟨res, hres⟩ : ∃ z, z = t_X4_power g a v1 := ⟨_, rfl⟩
  rw [← hres]
  have hf : _ = res := hres.symm
  unfold t_X4_power at hf
  refine xM_of (by decide) (Nat.le_of_ble_eq_true rfl) ?_
  intro p e s m below meth c A hx hb hr hml hts hown hlocks hA hD hP hK hN hS ls hl
  have hw : ∀ w ∈ BW, w.before _ s = true := fun w h => hts w (List.mem_cons_of_mem _ h)
  have C0 : xCtx E p m c cX4_power 2 s _ RX4 A yX4_power cX4_power 2 (some .int) := ⟨hx, hb, hml, hown, hts, hA, hK, hN⟩
  have hl : lv_has ls 2 [(0, .ref (E.2.1 1)), (1, .int v1)] := hl
  refine lv_aload_n hx hb dX4_power_0 rfl (lv_at hl 0 rfl) ?_
  refine va_get (C := RX4) (T := TX4) (N := 3) hx hb hw bfX40 hown hK hP 1 (gx_1 E g a) rfl 1 (by decide) (hw _ bw56) (fun _ h9 => h9) rfl dX4_power_1 ?_
  refine lv_iload_n hx hb dX4_power_4 rfl (lv_at hl 1 rfl) ?_
  refine xci (xRunN (rest := []) (As := [.ref (E.2.1 2), .int v1]) (k := 2) C0 (c_at l E (wX E g a) 2 v1 (gx_2 E g a) (Nat.le_of_ble_eq_true rfl)) bw9 nw11 bw13 bw12 hd_X11_at ⟨Nat.le_of_ble_eq_true rfl, Nat.le_of_ble_eq_true rfl⟩ hP (wX_D hD) hS rfl hl.1 rfl (Nat.le_of_ble_eq_true rfl) dX4_power_5 ⟨Nat.zero_le _, Nat.zero_le _⟩) hS (fun H locs hP hS => ?_)
  exact xi_retS (fr := (fun r => r)) (fw := (fun r => wX E g a)) hx hb hr hlocks hf hP hS dX4_power_8
def f_X0_strays (k : Nat) (g : xG) (a : xA) (v2 : Int32) (v3 : Int32) : Option (Int32 × xG × xA) := (if v3 = (((1 : Int32) <<< ((t_X4_power g a v2) &&& 31)) - 1) then some (0, g, a) else Option.bind (f_X0_images k g a v2 v3) (fun u2 => some ((u2.1 &&& (v3 ^^^ (-1))), u2.2.1, u2.2.2)))
set_option maxRecDepth 100000 in
set_option maxHeartbeats 40000000 in
theorem c_X0_strays (l : Launch) (E : xE) (k : Nat) (hk : k < 7) (g : xG) (a : xA) (v2 : Int32) (v3 : Int32) {res : Int32 × xG × xA} (hf : f_X0_strays k g a v2 v3 = some res) : xM l E yX0_strays cX0_strays 5 (some .int) 4 91 [.ref (E.2.1 7), .ref (E.2.1 (40 + k)), .int v2, .int v3] (wX E g a) (xQi E res.1 (wX E res.2.1 res.2.2)) := by
  unfold f_X0_strays at hf
  refine xM_of (by decide) (Nat.le_of_ble_eq_true rfl) ?_
  intro p e s m below meth c A hx hb hr hml hts hown hlocks hA hD hP hK hN hS ls hl
  have hw : ∀ w ∈ BW, w.before _ s = true := fun w h => hts w (List.mem_cons_of_mem _ h)
  have C0 : xCtx E p m c cX0_strays 5 s _ RX0 A yX0_strays cX0_strays 5 (some .int) := ⟨hx, hb, hml, hown, hts, hA, hK, hN⟩
  have hl : lv_has ls 5 [(0, .ref (E.2.1 7)), (1, .ref (E.2.1 (40 + k))), (2, .int v2), (3, .int v3)] := hl
  refine lv_iconst (v := 1) hx hb dX0_strays_0 (by decide) ?_
  refine lv_aload_n hx hb dX0_strays_1 rfl (lv_at hl 0 rfl) ?_
  refine va_get (C := RX0) (T := TX0) (N := 5) hx hb hw bfX00 hown hK hP 7 (gx_7 E g a) rfl 0 (by decide) (hw _ bw7) (fun _ h9 => h9) rfl dX0_strays_2 ?_
  refine lv_iload_n hx hb dX0_strays_5 rfl (lv_at hl 2 rfl) ?_
  refine xci (xRunV (rest := [.int 1]) (As := [.int v2]) (C := RX4) (k := 1) C0 (c_X4_power l E g a v2) bw55 bw57 bw22 bw58 bw59 hd_X4_power ⟨Nat.le_of_ble_eq_true rfl, Nat.le_of_ble_eq_true rfl⟩ hP (wX_D hD) hS (va_recv hK hP (ci := 4) rfl (gx_1 E g a)) rfl hl.1 rfl (Nat.le_of_ble_eq_true rfl) dX0_strays_6 ⟨Nat.zero_le _, Nat.zero_le _⟩) hS (fun H locs hP hS => ?_)
  refine lv_ishl hx hb dX0_strays_9 ?_
  refine lv_iconst (v := 1) hx hb dX0_strays_10 (by decide) ?_
  refine lv_isub hx hb dX0_strays_11 ?_
  refine lv_istore (lv' := [(4, .int (((1 : Int32) <<< ((t_X4_power g a v2) &&& 31)) - 1)), (0, .ref (E.2.1 7)), (1, .ref (E.2.1 (40 + k))), (2, .int v2), (3, .int v3)]) hx hb dX0_strays_12 hl (by decide) rfl (fun ls hl => ?_)
  refine lv_iload_n hx hb dX0_strays_14 rfl (lv_at hl 4 rfl) ?_
  refine lv_iload hx hb dX0_strays_15 (lv_at hl 0 rfl) ?_
  refine lv_icmp_ne (tgt := 24) hx hb dX0_strays_17 (by decide) (fun c1 => ?_) (fun c1 => ?_)
  · replace hf := (if_neg c1).symm.trans hf
    refine lv_aload_n hx hb dX0_strays_24 rfl (lv_at hl 1 rfl) ?_
    refine lv_aload_n hx hb dX0_strays_25 rfl (lv_at hl 2 rfl) ?_
    refine lv_iload_n hx hb dX0_strays_26 rfl (lv_at hl 3 rfl) ?_
    refine lv_iload_n hx hb dX0_strays_27 rfl (lv_at hl 4 rfl) ?_
    obtain ⟨u2, e3, hf⟩ := bd_some hf
    refine xci (xRunV (rest := []) (As := [.ref (E.2.1 (40 + k)), .int v2, .int v3]) (C := RX0) (k := 3) C0 (c_X0_images l E k hk g a v2 v3 e3) bw54 bw60 bw30 bw61 bw62 hd_X0_images ⟨Nat.le_of_ble_eq_true rfl, Nat.le_of_ble_eq_true rfl⟩ hP (wX_D hD) hS (va_recv hK hP (ci := 0) rfl (gx_7 E g a)) rfl hl.1 rfl (Nat.le_of_ble_eq_true rfl) dX0_strays_28 ⟨Nat.zero_le _, Nat.zero_le _⟩) hS (fun H locs hP hS => ?_)
    refine lv_iload_n hx hb dX0_strays_31 rfl (lv_at hl 4 rfl) ?_
    refine lv_iconst (v := (-1)) hx hb dX0_strays_32 (by decide) ?_
    refine lv_ixor hx hb dX0_strays_33 ?_
    refine lv_iand hx hb dX0_strays_34 ?_
    exact xi_retS (fr := (fun r => r.1)) (fw := (fun r => wX E r.2.1 r.2.2)) hx hb hr hlocks (Option.some.inj hf) hP hS dX0_strays_35
  · replace hf := (if_pos c1).symm.trans hf
    refine lv_iconst (v := 0) hx hb dX0_strays_20 (by decide) ?_
    refine lv_goto (tgt := 35) hx hb dX0_strays_21 (by decide) ?_
    exact xi_retS (fr := (fun r => r.1)) (fw := (fun r => wX E r.2.1 r.2.2)) hx hb hr hlocks (Option.some.inj hf) hP hS dX0_strays_35
def f_X0_closure_6 (k : Nat) : Nat → xG → xA → Int32 → Int32 → Int32 → Option (Int32 × xG × xA)
  | 0, _, _, _, _, _ => none
  | n + 1, g, a, x2, x4, x5 => (if 27 < x5 then some (x4, g, a) else Option.bind (f_X0_strays k g a x2 x4) (fun u2 => (if u2.1 = 0 then some (x4, u2.2.1, u2.2.2) else f_X0_closure_6 k n u2.2.1 u2.2.2 x2 (x4 ||| u2.1) (x5 + 1))))
theorem e_X0_closure_6 (k : Nat) (n : Nat) (g : xG) (a : xA) (x2 : Int32) (x4 : Int32) (x5 : Int32) : f_X0_closure_6 k (n + 1) g a x2 x4 x5 = (if 27 < x5 then some (x4, g, a) else Option.bind (f_X0_strays k g a x2 x4) (fun u2 => (if u2.1 = 0 then some (x4, u2.2.1, u2.2.2) else f_X0_closure_6 k n u2.2.1 u2.2.2 x2 (x4 ||| u2.1) (x5 + 1)))) := rfl
def f_X0_closure (k : Nat) (g : xG) (a : xA) (v2 : Int32) (v3 : Int32) : Option (Int32 × xG × xA) := f_X0_closure_6 k fu g a v2 v3 0
set_option maxRecDepth 100000 in
set_option maxHeartbeats 40000000 in
theorem c_X0_closure (l : Launch) (E : xE) (k : Nat) (hk : k < 7) (g : xG) (a : xA) (v2 : Int32) (v3 : Int32) {res : Int32 × xG × xA} (hf : f_X0_closure k g a v2 v3 = some res) : xM l E yX0_closure cX0_closure 7 (some .int) 5 115 [.ref (E.2.1 7), .ref (E.2.1 (40 + k)), .int v2, .int v3] (wX E g a) (xQi E res.1 (wX E res.2.1 res.2.2)) := by
  unfold f_X0_closure at hf
  refine xM_of (by decide) (Nat.le_of_ble_eq_true rfl) ?_
  intro p e s m below meth c A hx hb hr hml hts hown hlocks hA hD hP hK hN hS ls hl
  have hw : ∀ w ∈ BW, w.before _ s = true := fun w h => hts w (List.mem_cons_of_mem _ h)
  have C0 : xCtx E p m c cX0_closure 7 s _ RX0 A yX0_closure cX0_closure 7 (some .int) := ⟨hx, hb, hml, hown, hts, hA, hK, hN⟩
  have hl : lv_has ls 7 [(0, .ref (E.2.1 7)), (1, .ref (E.2.1 (40 + k))), (2, .int v2), (3, .int v3)] := hl
  have B6 : ∀ (n : Nat) (g : xG) (a : xA) (x2 : Int32) (x4 : Int32) (x5 : Int32) (H : Heap) (locs : List Loc) (ls : Array Slot), va_P E.1 vwCl (wX E g a) H → va_S A s.heap H locs → lv_has ls 7 [(0, .ref (E.2.1 7)), (1, .ref (E.2.1 (40 + k))), (2, .int x2), (4, .int x4), (5, .int x5)] → f_X0_closure_6 k n g a x2 x4 x5 = some res → W p l e ({ frames := 5, cells := 0, slots := 0, locals := 115 }) s m ([.ref (E.2.1 7), .ref (E.2.1 (40 + k)), .int v2, .int v3] : List Value).toArray below meth c H locs 0 0 (MQ below ((xQi E res.1 (wX E res.2.1 res.2.2)) A) ([.ref (E.2.1 7), .ref (E.2.1 (40 + k)), .int v2, .int v3] : List Value).toArray s 0 0 A) (F0 m 6 ls []) := by
    intro n
    induction n with
    | zero => intro g a x2 x4 x5 H locs ls hP hS hl hf; exact absurd (show (none : Option (Int32 × xG × xA)) = some res from hf) (by intro h; cases h)
    | succ n ih =>
      intro g a x2 x4 x5 H locs ls hP hS hl hf
      replace hf := (e_X0_closure_6 k n g a x2 x4 x5).symm.trans hf
      refine lv_iload hx hb dX0_closure_6 (lv_at hl 4 rfl) ?_
      refine lv_bipush (v := 27) hx hb dX0_closure_8 (by decide) ?_
      refine lv_icmp_gt (tgt := 44) hx hb dX0_closure_10 (by decide) (fun c1 => ?_) (fun c1 => ?_)
      · replace hf := (if_pos c1).symm.trans hf
        refine lv_iload hx hb dX0_closure_44 (lv_at hl 3 rfl) ?_
        exact xi_retS (fr := (fun r => r.1)) (fw := (fun r => wX E r.2.1 r.2.2)) hx hb hr hlocks (Option.some.inj hf) hP hS dX0_closure_46
      · replace hf := (if_neg c1).symm.trans hf
        refine lv_aload_n hx hb dX0_closure_13 rfl (lv_at hl 0 rfl) ?_
        refine lv_aload_n hx hb dX0_closure_14 rfl (lv_at hl 1 rfl) ?_
        refine lv_iload_n hx hb dX0_closure_15 rfl (lv_at hl 2 rfl) ?_
        refine lv_iload hx hb dX0_closure_16 (lv_at hl 3 rfl) ?_
        obtain ⟨u2, e3, hf⟩ := bd_some hf
        refine xci (xRunV (rest := []) (As := [.ref (E.2.1 (40 + k)), .int x2, .int x4]) (C := RX0) (k := 3) C0 (c_X0_strays l E k hk g a x2 x4 e3) bw63 bw64 bw30 bw65 bw66 hd_X0_strays ⟨Nat.le_of_ble_eq_true rfl, Nat.le_of_ble_eq_true rfl⟩ hP (wX_D hD) hS (va_recv hK hP (ci := 0) rfl (gx_7 E g a)) rfl hl.1 rfl (Nat.le_of_ble_eq_true rfl) dX0_closure_18 ⟨Nat.zero_le _, Nat.zero_le _⟩) hS (fun H locs hP hS => ?_)
        refine lv_istore (lv' := [(6, .int u2.1), (0, .ref (E.2.1 7)), (1, .ref (E.2.1 (40 + k))), (2, .int x2), (4, .int x4), (5, .int x5)]) hx hb dX0_closure_21 hl (by decide) rfl (fun ls hl => ?_)
        refine lv_iload hx hb dX0_closure_23 (lv_at hl 0 rfl) ?_
        refine lv_if_ne (tgt := 31) hx hb dX0_closure_25 (by decide) (fun c4 => ?_) (fun c4 => ?_)
        · replace hf := (if_neg c4).symm.trans hf
          refine lv_iload hx hb dX0_closure_31 (lv_at hl 4 rfl) ?_
          refine lv_iload hx hb dX0_closure_33 (lv_at hl 0 rfl) ?_
          refine lv_ior hx hb dX0_closure_35 ?_
          refine lv_istore (lv' := [(4, .int (x4 ||| u2.1)), (6, .int u2.1), (0, .ref (E.2.1 7)), (1, .ref (E.2.1 (40 + k))), (2, .int x2), (5, .int x5)]) hx hb dX0_closure_36 hl (by decide) rfl (fun ls hl => ?_)
          refine lv_iinc (v := (x5 + 1)) (lv' := [(5, .int (x5 + 1)), (4, .int (x4 ||| u2.1)), (6, .int u2.1), (0, .ref (E.2.1 7)), (1, .ref (E.2.1 (40 + k))), (2, .int x2)]) hx hb dX0_closure_38 hl (k := 5) rfl rfl (by decide) rfl (fun ls hl => ?_)
          refine lv_goto (tgt := 6) hx hb dX0_closure_41 (by decide) ?_
          exact ih u2.2.1 u2.2.2 x2 (x4 ||| u2.1) (x5 + 1) _ _ _ hP hS (lv_sub hl [3, 4, 5, 1, 0] rfl) hf
        · replace hf := (if_pos c4).symm.trans hf
          refine lv_goto (tgt := 44) hx hb dX0_closure_28 (by decide) ?_
          refine lv_iload hx hb dX0_closure_44 (lv_at hl 4 rfl) ?_
          exact xi_retS (fr := (fun r => r.1)) (fw := (fun r => wX E r.2.1 r.2.2)) hx hb hr hlocks (Option.some.inj hf) hP hS dX0_closure_46
  refine lv_iload_n hx hb dX0_closure_0 rfl (lv_at hl 3 rfl) ?_
  refine lv_istore (lv' := [(4, .int v3), (0, .ref (E.2.1 7)), (1, .ref (E.2.1 (40 + k))), (2, .int v2), (3, .int v3)]) hx hb dX0_closure_1 hl (by decide) rfl (fun ls hl => ?_)
  refine lv_iconst (v := 0) hx hb dX0_closure_3 (by decide) ?_
  refine lv_istore (lv' := [(5, .int 0), (4, .int v3), (0, .ref (E.2.1 7)), (1, .ref (E.2.1 (40 + k))), (2, .int v2), (3, .int v3)]) hx hb dX0_closure_4 hl (by decide) rfl (fun ls hl => ?_)
  exact B6 fu g a v2 v3 0 _ _ _ hP hS (lv_sub hl [2, 3, 4, 1, 0] rfl) hf
def t_X2_begin (j : Nat) (g : xG) (a : xA) (v1 : Int32) : xG := (upd (upd g (12 + 2 * j) v1) (11 + 2 * j) 0)
set_option maxRecDepth 100000 in
set_option maxHeartbeats 40000000 in
theorem c_X2_begin (l : Launch) (E : xE) (j : Nat) (hj : j < 2) (g : xG) (a : xA) (v1 : Int32) : xM l E yX2_begin cX2_begin 2 none 0 0 [.ref (E.2.1 (24 + 7 * j)), .int v1] (wX E g a) (xQv E (wX E (t_X2_begin j g a v1) a)) := by
  obtain ⟨res, hres⟩ : ∃ z, z = t_X2_begin j g a v1 := ⟨_, rfl⟩
  rw [← hres]
  have hf : _ = res := hres.symm
  unfold t_X2_begin at hf
  refine xM_of (by decide) (Nat.le_of_ble_eq_true rfl) ?_
  intro p e s m below meth c A hx hb hr hml hts hown hlocks hA hD hP hK hN hS ls hl
  have hw : ∀ w ∈ BW, w.before _ s = true := fun w h => hts w (List.mem_cons_of_mem _ h)
  have C0 : xCtx E p m c cX2_begin 2 s _ RX2 A yX2_begin cX2_begin 2 none := ⟨hx, hb, hml, hown, hts, hA, hK, hN⟩
  have hl : lv_has ls 2 [(0, .ref (E.2.1 (24 + 7 * j))), (1, .int v1)] := hl
  refine lv_aload_n hx hb dX2_begin_0 rfl (lv_at hl 0 rfl) ?_
  refine lv_iload_n hx hb dX2_begin_1 rfl (lv_at hl 1 rfl) ?_
  refine va_put (v := .int v1) (ty := .int) (C := RX2) (T := TX2) (N := 10) hx hb hw bfX20 tyX2 tyX2_ok nmX2 hown hK hP (wX_D hD) hS (24 + 7 * j) (gx_inst E g a j hj) rfl 3 (by decide) (hw _ bw91) (fun _ h9 => h9) rfl (by decide +kernel) rfl rfl (Nat.le_of_ble_eq_true rfl) dX2_begin_2 (fun H locs hP _ hS => ?_)
  have hP := xP_eq (sx_ig12 E g a j hj v1) hP
  refine lv_aload_n hx hb dX2_begin_5 rfl (lv_at hl 0 rfl) ?_
  refine lv_iconst (v := 0) hx hb dX2_begin_6 (by decide) ?_
  refine va_put (v := .int 0) (ty := .int) (C := RX2) (T := TX2) (N := 10) hx hb hw bfX20 tyX2 tyX2_ok nmX2 hown hK hP (wX_D hD) hS (24 + 7 * j) (gx_inst E (upd g (12 + 2 * j) v1) a j hj) rfl 0 (by decide) (hw _ bw92) (fun _ h9 => h9) rfl (by decide +kernel) rfl rfl (Nat.le_of_ble_eq_true rfl) dX2_begin_7 (fun H locs hP _ hS => ?_)
  have hP := xP_eq (sx_ig11 E (upd g (12 + 2 * j) v1) a j hj 0) hP
  exact xv_retS (fw := (fun r => wX E r a)) hx hb hr hlocks hf hP hS dX2_begin_10
def f_X9_signAt (g : xG) (a : xA) (v1 : Int32) : Option (Int32) := (if v1 < 0 then some 0 else (if 60 ≤ v1 then some 0 else ck (inB v1 60) (ck (chB (a 20 (v1 : Int32).toNatClampNeg)) (some (a 20 (v1 : Int32).toNatClampNeg)))))
set_option maxRecDepth 100000 in
set_option maxHeartbeats 40000000 in
theorem c_X9_signAt (l : Launch) (E : xE) (g : xG) (a : xA) (v1 : Int32) {res : Int32} (hf : f_X9_signAt g a v1 = some res) : xM l E yX9_signAt cX9_signAt 2 (some .char) 0 0 [.ref (E.2.1 19), .int v1] (wX E g a) (xQi E res (wX E g a)) := by
  unfold f_X9_signAt at hf
  refine xM_of (by decide) (Nat.le_of_ble_eq_true rfl) ?_
  intro p e s m below meth c A hx hb hr hml hts hown hlocks hA hD hP hK hN hS ls hl
  have hw : ∀ w ∈ BW, w.before _ s = true := fun w h => hts w (List.mem_cons_of_mem _ h)
  have C0 : xCtx E p m c cX9_signAt 2 s _ RX9 A yX9_signAt cX9_signAt 2 (some .char) := ⟨hx, hb, hml, hown, hts, hA, hK, hN⟩
  have hl : lv_has ls 2 [(0, .ref (E.2.1 19)), (1, .int v1)] := hl
  refine lv_iload_n hx hb dX9_signAt_0 rfl (lv_at hl 1 rfl) ?_
  refine lv_if_lt (tgt := 22) hx hb dX9_signAt_1 (by decide) (fun c1 => ?_) (fun c1 => ?_)
  · replace hf := (if_pos c1).symm.trans hf
    refine lv_iconst (v := 0) hx hb dX9_signAt_22 (by decide) ?_
    exact xz_retS (fr := (fun r => r)) (fw := (fun r => wX E g a)) hx hb hr hlocks (Option.some.inj hf) nzc0 hP hS dX9_signAt_23
  · replace hf := (if_neg c1).symm.trans hf
    refine lv_iload_n hx hb dX9_signAt_4 rfl (lv_at hl 1 rfl) ?_
    refine lv_aload_n hx hb dX9_signAt_5 rfl (lv_at hl 0 rfl) ?_
    refine va_get (C := RX9) (T := TX9) (N := 2) hx hb hw bfX90 hown hK hP 19 (gx_19 E g a) rfl 1 (by decide) (hw _ bw94) (fun _ h9 => h9) rfl dX9_signAt_6 ?_
    refine va_alen (v := 60) hx hb hK hP 20 1 (gx_20 E g a) rfl rfl dX9_signAt_9 ?_
    refine lv_icmp_ge (tgt := 22) hx hb dX9_signAt_10 (by decide) (fun c2 => ?_) (fun c2 => ?_)
    · replace hf := (if_pos c2).symm.trans hf
      refine lv_iconst (v := 0) hx hb dX9_signAt_22 (by decide) ?_
      exact xz_retS (fr := (fun r => r)) (fw := (fun r => wX E g a)) hx hb hr hlocks (Option.some.inj hf) nzc0 hP hS dX9_signAt_23
    · replace hf := (if_neg c2).symm.trans hf
      refine lv_aload_n hx hb dX9_signAt_13 rfl (lv_at hl 0 rfl) ?_
      refine va_get (C := RX9) (T := TX9) (N := 2) hx hb hw bfX90 hown hK hP 19 (gx_19 E g a) rfl 1 (by decide) (hw _ bw94) (fun _ h9 => h9) rfl dX9_signAt_14 ?_
      refine lv_iload_n hx hb dX9_signAt_17 rfl (lv_at hl 1 rfl) ?_
      obtain ⟨k3, hf⟩ := ck_some hf
      refine va_cald hx hb hK hP 20 1 (gx_20 E g a) rfl (inB_in k3) dX9_signAt_18 ?_
      refine lv_goto (tgt := 23) hx hb dX9_signAt_19 (by decide) ?_
      obtain ⟨k4, hf⟩ := ck_some hf
      exact xz_retS (fr := (fun r => r)) (fw := (fun r => wX E g a)) hx hb hr hlocks (Option.some.inj hf) (chB_ch k4) hP hS dX9_signAt_23
def t_X9_isVariable (g : xG) (a : xA) (v0 : Int32) : Int32 := (if v0 < 97 then 0 else (if 102 < v0 then 0 else 1))
set_option maxRecDepth 100000 in
set_option maxHeartbeats 40000000 in
theorem c_X9_isVariable (l : Launch) (E : xE) (g : xG) (a : xA) (v0 : Int32) : xM l E yX9_isVariable cX9_isVariable 1 (some .boolean) 0 0 [.int v0] (wX E g a) (xQi E (t_X9_isVariable g a v0) (wX E g a)) := by
  obtain ⟨res, hres⟩ : ∃ z, z = t_X9_isVariable g a v0 := ⟨_, rfl⟩
  rw [← hres]
  have hf : _ = res := hres.symm
  unfold t_X9_isVariable at hf
  refine xM_of (by decide) (Nat.le_of_ble_eq_true rfl) ?_
  intro p e s m below meth c A hx hb hr hml hts hown hlocks hA hD hP hK hN hS ls hl
  have hw : ∀ w ∈ BW, w.before _ s = true := fun w h => hts w (List.mem_cons_of_mem _ h)
  have C0 : xCtx E p m c cX9_isVariable 1 s _ RX9 A yX9_isVariable cX9_isVariable 1 (some .boolean) := ⟨hx, hb, hml, hown, hts, hA, hK, hN⟩
  have hl : lv_has ls 1 [(0, .int v0)] := hl
  refine lv_iload_n hx hb dX9_isVariable_0 rfl (lv_at hl 0 rfl) ?_
  refine lv_bipush (v := 97) hx hb dX9_isVariable_1 (by decide) ?_
  refine lv_icmp_lt (tgt := 16) hx hb dX9_isVariable_3 (by decide) (fun c1 => ?_) (fun c1 => ?_)
  · replace hf := (if_pos c1).symm.trans hf
    refine lv_iconst (v := 0) hx hb dX9_isVariable_16 (by decide) ?_
    exact xz_retS (fr := (fun r => r)) (fw := (fun r => wX E g a)) hx hb hr hlocks hf nz0 hP hS dX9_isVariable_17
  · replace hf := (if_neg c1).symm.trans hf
    refine lv_iload_n hx hb dX9_isVariable_6 rfl (lv_at hl 0 rfl) ?_
    refine lv_bipush (v := 102) hx hb dX9_isVariable_7 (by decide) ?_
    refine lv_icmp_gt (tgt := 16) hx hb dX9_isVariable_9 (by decide) (fun c2 => ?_) (fun c2 => ?_)
    · replace hf := (if_pos c2).symm.trans hf
      refine lv_iconst (v := 0) hx hb dX9_isVariable_16 (by decide) ?_
      exact xz_retS (fr := (fun r => r)) (fw := (fun r => wX E g a)) hx hb hr hlocks hf nz0 hP hS dX9_isVariable_17
    · replace hf := (if_neg c2).symm.trans hf
      refine lv_iconst (v := 1) hx hb dX9_isVariable_12 (by decide) ?_
      refine lv_goto (tgt := 17) hx hb dX9_isVariable_13 (by decide) ?_
      exact xz_retS (fr := (fun r => r)) (fw := (fun r => wX E g a)) hx hb hr hlocks hf nz1 hP hS dX9_isVariable_17
def t_X4_widest (g : xG) (a : xA) : Int32 := (if (g 0) = 2 then 3 else 2)
set_option maxRecDepth 100000 in
set_option maxHeartbeats 40000000 in
theorem c_X4_widest (l : Launch) (E : xE) (g : xG) (a : xA) : xM l E yX4_widest cX4_widest 1 (some .int) 0 0 [.ref (E.2.1 1)] (wX E g a) (xQi E (t_X4_widest g a) (wX E g a)) := by
  obtain ⟨res, hres⟩ : ∃ z, z = t_X4_widest g a := ⟨_, rfl⟩
  rw [← hres]
  have hf : _ = res := hres.symm
  unfold t_X4_widest at hf
  refine xM_of (by decide) (Nat.le_of_ble_eq_true rfl) ?_
  intro p e s m below meth c A hx hb hr hml hts hown hlocks hA hD hP hK hN hS ls hl
  have hw : ∀ w ∈ BW, w.before _ s = true := fun w h => hts w (List.mem_cons_of_mem _ h)
  have C0 : xCtx E p m c cX4_widest 1 s _ RX4 A yX4_widest cX4_widest 1 (some .int) := ⟨hx, hb, hml, hown, hts, hA, hK, hN⟩
  have hl : lv_has ls 1 [(0, .ref (E.2.1 1))] := hl
  refine lv_aload_n hx hb dX4_widest_0 rfl (lv_at hl 0 rfl) ?_
  refine va_get (C := RX4) (T := TX4) (N := 3) hx hb hw bfX40 hown hK hP 1 (gx_1 E g a) rfl 0 (by decide) (hw _ bw97) (fun _ h9 => h9) rfl dX4_widest_1 ?_
  refine lv_iconst (v := 2) hx hb dX4_widest_4 (by decide) ?_
  refine lv_icmp_ne (tgt := 12) hx hb dX4_widest_5 (by decide) (fun c1 => ?_) (fun c1 => ?_)
  · replace hf := (if_neg c1).symm.trans hf
    refine lv_iconst (v := 2) hx hb dX4_widest_12 (by decide) ?_
    exact xi_retS (fr := (fun r => r)) (fw := (fun r => wX E g a)) hx hb hr hlocks hf hP hS dX4_widest_13
  · replace hf := (if_pos c1).symm.trans hf
    refine lv_iconst (v := 3) hx hb dX4_widest_8 (by decide) ?_
    refine lv_goto (tgt := 13) hx hb dX4_widest_9 (by decide) ?_
    exact xi_retS (fr := (fun r => r)) (fw := (fun r => wX E g a)) hx hb hr hlocks hf hP hS dX4_widest_13
def f_X1_takesInHead_38 : Nat → xG → xA → Int32 → Int32 → Option (Int32 × xG × xA)
  | 0, _, _, _, _ => none
  | n + 1, g, a, x2, x3 => (if (g 7) ≤ x3 then (if (g 7) < (t_X4_widest g a) then some (1, (upd g 7 ((g 7) + 1)), (upA a 22 (putF 3 (a 22) (g 7) x2))) else some (0, g, a)) else (if (atF 3 (a 22) x3) = x2 then some (0, g, a) else f_X1_takesInHead_38 n g a x2 (x3 + 1)))
theorem e_X1_takesInHead_38 (n : Nat) (g : xG) (a : xA) (x2 : Int32) (x3 : Int32) : f_X1_takesInHead_38 (n + 1) g a x2 x3 = (if (g 7) ≤ x3 then (if (g 7) < (t_X4_widest g a) then some (1, (upd g 7 ((g 7) + 1)), (upA a 22 (putF 3 (a 22) (g 7) x2))) else some (0, g, a)) else (if (atF 3 (a 22) x3) = x2 then some (0, g, a) else f_X1_takesInHead_38 n g a x2 (x3 + 1))) := rfl
def f_X1_takesInHead (g : xG) (a : xA) (v1 : Int32) : Option (Int32 × xG × xA) := (if (t_X9_isVariable g a v1) = 0 then (if v1 = 58 then (if ((upd g 8 1) 7) ≤ 0 then some (0, (upd g 8 1), a) else some (1, (upd g 8 1), a)) else some (0, (upd g 8 1), a)) else f_X1_takesInHead_38 fu g a (v1 - 97) 0)
set_option maxRecDepth 100000 in
set_option maxHeartbeats 40000000 in
theorem c_X1_takesInHead (l : Launch) (E : xE) (g : xG) (a : xA) (v1 : Int32) {res : Int32 × xG × xA} (hf : f_X1_takesInHead g a v1 = some res) : xM l E yX1_takesInHead cX1_takesInHead 4 (some .boolean) 1 22 [.ref (E.2.1 21), .int v1] (wX E g a) (xQi E res.1 (wX E res.2.1 res.2.2)) := by
  unfold f_X1_takesInHead at hf
  refine xM_of (by decide) (Nat.le_of_ble_eq_true rfl) ?_
  intro p e s m below meth c A hx hb hr hml hts hown hlocks hA hD hP hK hN hS ls hl
  have hw : ∀ w ∈ BW, w.before _ s = true := fun w h => hts w (List.mem_cons_of_mem _ h)
  have C0 : xCtx E p m c cX1_takesInHead 4 s _ RX1 A yX1_takesInHead cX1_takesInHead 4 (some .boolean) := ⟨hx, hb, hml, hown, hts, hA, hK, hN⟩
  have hl : lv_has ls 4 [(0, .ref (E.2.1 21)), (1, .int v1)] := hl
  have B38 : ∀ (n : Nat) (g : xG) (a : xA) (x2 : Int32) (x3 : Int32) (H : Heap) (locs : List Loc) (ls : Array Slot), va_P E.1 vwCl (wX E g a) H → va_S A s.heap H locs → lv_has ls 4 [(0, .ref (E.2.1 21)), (2, .int x2), (3, .int x3)] → f_X1_takesInHead_38 n g a x2 x3 = some res → W p l e ({ frames := 1, cells := 0, slots := 0, locals := 22 }) s m ([.ref (E.2.1 21), .int v1] : List Value).toArray below meth c H locs 0 0 (MQ below ((xQi E res.1 (wX E res.2.1 res.2.2)) A) ([.ref (E.2.1 21), .int v1] : List Value).toArray s 0 0 A) (F0 m 38 ls []) := by
    intro n
    induction n with
    | zero => intro g a x2 x3 H locs ls hP hS hl hf; exact absurd (show (none : Option (Int32 × xG × xA)) = some res from hf) (by intro h; cases h)
    | succ n ih =>
      intro g a x2 x3 H locs ls hP hS hl hf
      replace hf := (e_X1_takesInHead_38 n g a x2 x3).symm.trans hf
      refine lv_iload_n hx hb dX1_takesInHead_38 rfl (lv_at hl 2 rfl) ?_
      refine lv_aload_n hx hb dX1_takesInHead_39 rfl (lv_at hl 0 rfl) ?_
      refine va_get (C := RX1) (T := TX1) (N := 9) hx hb hw bfX10 hown hK hP 21 (gx_21 E g a) rfl 0 (by decide) (hw _ bw100) (fun _ h9 => h9) rfl dX1_takesInHead_40 ?_
      refine lv_icmp_ge (tgt := 66) hx hb dX1_takesInHead_43 (by decide) (fun c4 => ?_) (fun c4 => ?_)
      · replace hf := (if_pos c4).symm.trans hf
        refine lv_aload_n hx hb dX1_takesInHead_66 rfl (lv_at hl 0 rfl) ?_
        refine va_get (C := RX1) (T := TX1) (N := 9) hx hb hw bfX10 hown hK hP 21 (gx_21 E g a) rfl 0 (by decide) (hw _ bw100) (fun _ h9 => h9) rfl dX1_takesInHead_67 ?_
        refine lv_aload_n hx hb dX1_takesInHead_70 rfl (lv_at hl 0 rfl) ?_
        refine va_get (C := RX1) (T := TX1) (N := 9) hx hb hw bfX10 hown hK hP 21 (gx_21 E g a) rfl 1 (by decide) (hw _ bw82) (fun _ h9 => h9) rfl dX1_takesInHead_71 ?_
        refine xci (xRunV (rest := [.int (g 7)]) (As := []) (C := RX4) (k := 0) C0 (c_X4_widest l E g a) bw96 bw104 bw22 bw105 bw106 hd_X4_widest ⟨Nat.le_of_ble_eq_true rfl, Nat.le_of_ble_eq_true rfl⟩ hP (wX_D hD) hS (va_recv hK hP (ci := 4) rfl (gx_1 E g a)) rfl hl.1 rfl (Nat.le_of_ble_eq_true rfl) dX1_takesInHead_74 ⟨Nat.zero_le _, Nat.zero_le _⟩) hS (fun H locs hP hS => ?_)
        refine lv_icmp_lt (tgt := 82) hx hb dX1_takesInHead_77 (by decide) (fun c5 => ?_) (fun c5 => ?_)
        · replace hf := (if_pos c5).symm.trans hf
          refine lv_aload_n hx hb dX1_takesInHead_82 rfl (lv_at hl 0 rfl) ?_
          refine va_get (C := RX1) (T := TX1) (N := 9) hx hb hw bfX10 hown hK hP 21 (gx_21 E g a) rfl 4 (by decide) (hw _ bw80) (fun _ h9 => h9) rfl dX1_takesInHead_83 ?_
          refine lv_aload_n hx hb dX1_takesInHead_86 rfl (lv_at hl 0 rfl) ?_
          refine va_get (C := RX1) (T := TX1) (N := 9) hx hb hw bfX10 hown hK hP 21 (gx_21 E g a) rfl 0 (by decide) (hw _ bw100) (fun _ h9 => h9) rfl dX1_takesInHead_87 ?_
          refine lv_iload_n hx hb dX1_takesInHead_90 rfl (lv_at hl 1 rfl) ?_
          refine xcv (xRunN (rest := []) (As := [.ref (E.2.1 22), .int (g 7), .int x2]) (k := 3) C0 (c_put l E (wX E g a) 22 (g 7) x2 (gx_22 E g a) (Nat.le_of_ble_eq_true rfl) (sx_a22 E g a (putF 3 (a 22) (g 7) x2))) bw14 nw6 bw13 bw23 hd_X11_put ⟨Nat.le_of_ble_eq_true rfl, Nat.le_of_ble_eq_true rfl⟩ hP (wX_D hD) hS rfl hl.1 rfl (Nat.le_of_ble_eq_true rfl) dX1_takesInHead_91 ⟨Nat.zero_le _, Nat.zero_le _⟩) hS (fun H locs hP hS => ?_)
          refine lv_aload_n hx hb dX1_takesInHead_94 rfl (lv_at hl 0 rfl) ?_
          refine lv_dup hx hb dX1_takesInHead_95 rfl ?_
          refine va_get (C := RX1) (T := TX1) (N := 9) hx hb hw bfX10 hown hK hP 21 (gx_21 E g (upA a 22 (putF 3 (a 22) (g 7) x2))) rfl 0 (by decide) (hw _ bw100) (fun _ h9 => h9) rfl dX1_takesInHead_96 ?_
          refine lv_iconst (v := 1) hx hb dX1_takesInHead_99 (by decide) ?_
          refine lv_iadd hx hb dX1_takesInHead_100 ?_
          refine va_put (v := .int ((g 7) + 1)) (ty := .int) (C := RX1) (T := TX1) (N := 9) hx hb hw bfX10 tyX1 tyX1_ok nmX1 hown hK hP (wX_D hD) hS 21 (gx_21 E g (upA a 22 (putF 3 (a 22) (g 7) x2))) rfl 0 (by decide) (hw _ bw100) (fun _ h9 => h9) rfl (by decide +kernel) rfl rfl (Nat.le_of_ble_eq_true rfl) dX1_takesInHead_101 (fun H locs hP _ hS => ?_)
          have hP := xP_eq (sx_g7 E g (upA a 22 (putF 3 (a 22) (g 7) x2)) ((g 7) + 1)) hP
          refine lv_iconst (v := 1) hx hb dX1_takesInHead_104 (by decide) ?_
          exact xz_retS (fr := (fun r => r.1)) (fw := (fun r => wX E r.2.1 r.2.2)) hx hb hr hlocks (Option.some.inj hf) nz1 hP hS dX1_takesInHead_105
        · replace hf := (if_neg c5).symm.trans hf
          refine lv_iconst (v := 0) hx hb dX1_takesInHead_80 (by decide) ?_
          exact xz_retS (fr := (fun r => r.1)) (fw := (fun r => wX E r.2.1 r.2.2)) hx hb hr hlocks (Option.some.inj hf) nz0 hP hS dX1_takesInHead_81
      · replace hf := (if_neg c4).symm.trans hf
        refine lv_aload_n hx hb dX1_takesInHead_46 rfl (lv_at hl 0 rfl) ?_
        refine va_get (C := RX1) (T := TX1) (N := 9) hx hb hw bfX10 hown hK hP 21 (gx_21 E g a) rfl 4 (by decide) (hw _ bw80) (fun _ h9 => h9) rfl dX1_takesInHead_47 ?_
        refine lv_iload_n hx hb dX1_takesInHead_50 rfl (lv_at hl 2 rfl) ?_
        refine xci (xRunN (rest := []) (As := [.ref (E.2.1 22), .int x3]) (k := 2) C0 (c_at l E (wX E g a) 22 x3 (gx_22 E g a) (Nat.le_of_ble_eq_true rfl)) bw9 nw5 bw13 bw12 hd_X11_at ⟨Nat.le_of_ble_eq_true rfl, Nat.le_of_ble_eq_true rfl⟩ hP (wX_D hD) hS rfl hl.1 rfl (Nat.le_of_ble_eq_true rfl) dX1_takesInHead_51 ⟨Nat.zero_le _, Nat.zero_le _⟩) hS (fun H locs hP hS => ?_)
        refine lv_iload_n hx hb dX1_takesInHead_54 rfl (lv_at hl 1 rfl) ?_
        refine lv_icmp_ne (tgt := 60) hx hb dX1_takesInHead_55 (by decide) (fun c6 => ?_) (fun c6 => ?_)
        · replace hf := (if_neg c6).symm.trans hf
          refine lv_iinc (v := (x3 + 1)) (lv' := [(3, .int (x3 + 1)), (0, .ref (E.2.1 21)), (2, .int x2)]) hx hb dX1_takesInHead_60 hl (k := 2) rfl rfl (by decide) rfl (fun ls hl => ?_)
          refine lv_goto (tgt := 38) hx hb dX1_takesInHead_63 (by decide) ?_
          exact ih g a x2 (x3 + 1) _ _ _ hP hS (lv_sub hl [1, 2, 0] rfl) hf
        · replace hf := (if_pos c6).symm.trans hf
          refine lv_iconst (v := 0) hx hb dX1_takesInHead_58 (by decide) ?_
          exact xz_retS (fr := (fun r => r.1)) (fw := (fun r => wX E r.2.1 r.2.2)) hx hb hr hlocks (Option.some.inj hf) nz0 hP hS dX1_takesInHead_59
  refine lv_iload_n hx hb dX1_takesInHead_0 rfl (lv_at hl 1 rfl) ?_
  refine xci (xRunS (rest := []) (As := [.int v1]) (k := 1) C0 (c_X9_isVariable l E g a v1) bw95 bw101 bw103 bw102 hd_X9_isVariable ⟨Nat.le_of_ble_eq_true rfl, Nat.le_of_ble_eq_true rfl⟩ hP (wX_D hD) hS rfl hl.1 rfl (Nat.le_of_ble_eq_true rfl) dX1_takesInHead_1 ⟨Nat.zero_le _, Nat.zero_le _⟩) hS (fun H locs hP hS => ?_)
  refine lv_if_ne (tgt := 31) hx hb dX1_takesInHead_4 (by decide) (fun c1 => ?_) (fun c1 => ?_)
  · replace hf := (if_neg c1).symm.trans hf
    refine lv_iload_n hx hb dX1_takesInHead_31 rfl (lv_at hl 1 rfl) ?_
    refine lv_bipush (v := 97) hx hb dX1_takesInHead_32 (by decide) ?_
    refine lv_isub hx hb dX1_takesInHead_34 ?_
    refine lv_istore_n (lv' := [(2, .int (v1 - 97)), (0, .ref (E.2.1 21)), (1, .int v1)]) hx hb dX1_takesInHead_35 rfl hl (by decide) rfl (fun ls hl => ?_)
    refine lv_iconst (v := 0) hx hb dX1_takesInHead_36 (by decide) ?_
    refine lv_istore_n (lv' := [(3, .int 0), (2, .int (v1 - 97)), (0, .ref (E.2.1 21)), (1, .int v1)]) hx hb dX1_takesInHead_37 rfl hl (by decide) rfl (fun ls hl => ?_)
    exact B38 fu g a (v1 - 97) 0 _ _ _ hP hS (lv_sub hl [2, 1, 0] rfl) hf
  · replace hf := (if_pos c1).symm.trans hf
    refine lv_aload_n hx hb dX1_takesInHead_7 rfl (lv_at hl 0 rfl) ?_
    refine lv_iconst (v := 1) hx hb dX1_takesInHead_8 (by decide) ?_
    refine va_put (v := .int 1) (ty := .int) (C := RX1) (T := TX1) (N := 9) hx hb hw bfX10 tyX1 tyX1_ok nmX1 hown hK hP (wX_D hD) hS 21 (gx_21 E g a) rfl 5 (by decide) (hw _ bw99) (fun _ h9 => h9) rfl (by decide +kernel) rfl rfl (Nat.le_of_ble_eq_true rfl) dX1_takesInHead_9 (fun H locs hP _ hS => ?_)
    have hP := xP_eq (sx_g8 E g a 1) hP
    refine lv_iload_n hx hb dX1_takesInHead_12 rfl (lv_at hl 1 rfl) ?_
    refine lv_bipush (v := 58) hx hb dX1_takesInHead_13 (by decide) ?_
    refine lv_icmp_ne (tgt := 29) hx hb dX1_takesInHead_15 (by decide) (fun c2 => ?_) (fun c2 => ?_)
    · replace hf := (if_neg c2).symm.trans hf
      refine lv_iconst (v := 0) hx hb dX1_takesInHead_29 (by decide) ?_
      exact xz_retS (fr := (fun r => r.1)) (fw := (fun r => wX E r.2.1 r.2.2)) hx hb hr hlocks (Option.some.inj hf) nz0 hP hS dX1_takesInHead_30
    · replace hf := (if_pos c2).symm.trans hf
      refine lv_aload_n hx hb dX1_takesInHead_18 rfl (lv_at hl 0 rfl) ?_
      refine va_get (C := RX1) (T := TX1) (N := 9) hx hb hw bfX10 hown hK hP 21 (gx_21 E (upd g 8 1) a) rfl 0 (by decide) (hw _ bw100) (fun _ h9 => h9) rfl dX1_takesInHead_19 ?_
      refine lv_if_le (tgt := 29) hx hb dX1_takesInHead_22 (by decide) (fun c3 => ?_) (fun c3 => ?_)
      · replace hf := (if_pos c3).symm.trans hf
        refine lv_iconst (v := 0) hx hb dX1_takesInHead_29 (by decide) ?_
        exact xz_retS (fr := (fun r => r.1)) (fw := (fun r => wX E r.2.1 r.2.2)) hx hb hr hlocks (Option.some.inj hf) nz0 hP hS dX1_takesInHead_30
      · replace hf := (if_neg c3).symm.trans hf
        refine lv_iconst (v := 1) hx hb dX1_takesInHead_25 (by decide) ?_
        refine lv_goto (tgt := 30) hx hb dX1_takesInHead_26 (by decide) ?_
        exact xz_retS (fr := (fun r => r.1)) (fw := (fun r => wX E r.2.1 r.2.2)) hx hb hr hlocks (Option.some.inj hf) nz1 hP hS dX1_takesInHead_30
def t_X10_isThere (g : xG) (a : xA) (v1 : Int32) : Int32 := (if v1 < 0 then 0 else (if (g 1) ≤ v1 then 0 else 1))
set_option maxRecDepth 100000 in
set_option maxHeartbeats 40000000 in
theorem c_X10_isThere (l : Launch) (E : xE) (g : xG) (a : xA) (v1 : Int32) : xM l E yX10_isThere cX10_isThere 2 (some .boolean) 0 0 [.ref (E.2.1 4), .int v1] (wX E g a) (xQi E (t_X10_isThere g a v1) (wX E g a)) := by
  obtain ⟨res, hres⟩ : ∃ z, z = t_X10_isThere g a v1 := ⟨_, rfl⟩
  rw [← hres]
  have hf : _ = res := hres.symm
  unfold t_X10_isThere at hf
  refine xM_of (by decide) (Nat.le_of_ble_eq_true rfl) ?_
  intro p e s m below meth c A hx hb hr hml hts hown hlocks hA hD hP hK hN hS ls hl
  have hw : ∀ w ∈ BW, w.before _ s = true := fun w h => hts w (List.mem_cons_of_mem _ h)
  have C0 : xCtx E p m c cX10_isThere 2 s _ RX10 A yX10_isThere cX10_isThere 2 (some .boolean) := ⟨hx, hb, hml, hown, hts, hA, hK, hN⟩
  have hl : lv_has ls 2 [(0, .ref (E.2.1 4)), (1, .int v1)] := hl
  refine lv_iload_n hx hb dX10_isThere_0 rfl (lv_at hl 1 rfl) ?_
  refine lv_if_lt (tgt := 16) hx hb dX10_isThere_1 (by decide) (fun c1 => ?_) (fun c1 => ?_)
  · replace hf := (if_pos c1).symm.trans hf
    refine lv_iconst (v := 0) hx hb dX10_isThere_16 (by decide) ?_
    exact xz_retS (fr := (fun r => r)) (fw := (fun r => wX E g a)) hx hb hr hlocks hf nz0 hP hS dX10_isThere_17
  · replace hf := (if_neg c1).symm.trans hf
    refine lv_iload_n hx hb dX10_isThere_4 rfl (lv_at hl 1 rfl) ?_
    refine lv_aload_n hx hb dX10_isThere_5 rfl (lv_at hl 0 rfl) ?_
    refine va_get (C := RX10) (T := TX10) (N := 4) hx hb hw bfX100 hown hK hP 4 (gx_4 E g a) rfl 0 (by decide) (hw _ bw108) (fun _ h9 => h9) rfl dX10_isThere_6 ?_
    refine lv_icmp_ge (tgt := 16) hx hb dX10_isThere_9 (by decide) (fun c2 => ?_) (fun c2 => ?_)
    · replace hf := (if_pos c2).symm.trans hf
      refine lv_iconst (v := 0) hx hb dX10_isThere_16 (by decide) ?_
      exact xz_retS (fr := (fun r => r)) (fw := (fun r => wX E g a)) hx hb hr hlocks hf nz0 hP hS dX10_isThere_17
    · replace hf := (if_neg c2).symm.trans hf
      refine lv_iconst (v := 1) hx hb dX10_isThere_12 (by decide) ?_
      refine lv_goto (tgt := 17) hx hb dX10_isThere_13 (by decide) ?_
      exact xz_retS (fr := (fun r => r)) (fw := (fun r => wX E g a)) hx hb hr hlocks hf nz1 hP hS dX10_isThere_17
def f_X1_takesAtBeginningOfAtom (g : xG) (a : xA) (v1 : Int32) : Option (Int32 × xG × xA) := (if (t_X9_isVariable (upd g 10 0) a v1) = 0 then ck (boB (t_X10_isThere (upd (upd (upd g 10 0) 9 (v1 - 48)) 8 3) a ((upd (upd (upd g 10 0) 9 (v1 - 48)) 8 3) 9))) (some ((t_X10_isThere (upd (upd (upd g 10 0) 9 (v1 - 48)) 8 3) a ((upd (upd (upd g 10 0) 9 (v1 - 48)) 8 3) 9)), (upd (upd (upd g 10 0) 9 (v1 - 48)) 8 3), a)) else some (1, (upd (upd (upd (upd g 10 0) 9 8) 10 1) 8 2), (upA a 23 (putF 3 (a 23) 0 (v1 - 97)))))
set_option maxRecDepth 100000 in
set_option maxHeartbeats 40000000 in
theorem c_X1_takesAtBeginningOfAtom (l : Launch) (E : xE) (g : xG) (a : xA) (v1 : Int32) {res : Int32 × xG × xA} (hf : f_X1_takesAtBeginningOfAtom g a v1 = some res) : xM l E yX1_takesAtBeginningOfAtom cX1_takesAtBeginningOfAtom 2 (some .boolean) 1 22 [.ref (E.2.1 21), .int v1] (wX E g a) (xQi E res.1 (wX E res.2.1 res.2.2)) := by
  unfold f_X1_takesAtBeginningOfAtom at hf
  refine xM_of (by decide) (Nat.le_of_ble_eq_true rfl) ?_
  intro p e s m below meth c A hx hb hr hml hts hown hlocks hA hD hP hK hN hS ls hl
  have hw : ∀ w ∈ BW, w.before _ s = true := fun w h => hts w (List.mem_cons_of_mem _ h)
  have C0 : xCtx E p m c cX1_takesAtBeginningOfAtom 2 s _ RX1 A yX1_takesAtBeginningOfAtom cX1_takesAtBeginningOfAtom 2 (some .boolean) := ⟨hx, hb, hml, hown, hts, hA, hK, hN⟩
  have hl : lv_has ls 2 [(0, .ref (E.2.1 21)), (1, .int v1)] := hl
  refine lv_aload_n hx hb dX1_takesAtBeginningOfAtom_0 rfl (lv_at hl 0 rfl) ?_
  refine lv_iconst (v := 0) hx hb dX1_takesAtBeginningOfAtom_1 (by decide) ?_
  refine va_put (v := .int 0) (ty := .int) (C := RX1) (T := TX1) (N := 9) hx hb hw bfX10 tyX1 tyX1_ok nmX1 hown hK hP (wX_D hD) hS 21 (gx_21 E g a) rfl 7 (by decide) (hw _ bw110) (fun _ h9 => h9) rfl (by decide +kernel) rfl rfl (Nat.le_of_ble_eq_true rfl) dX1_takesAtBeginningOfAtom_2 (fun H locs hP _ hS => ?_)
  have hP := xP_eq (sx_g10 E g a 0) hP
  refine lv_iload_n hx hb dX1_takesAtBeginningOfAtom_5 rfl (lv_at hl 1 rfl) ?_
  refine xci (xRunS (rest := []) (As := [.int v1]) (k := 1) C0 (c_X9_isVariable l E (upd g 10 0) a v1) bw95 bw101 bw103 bw102 hd_X9_isVariable ⟨Nat.le_of_ble_eq_true rfl, Nat.le_of_ble_eq_true rfl⟩ hP (wX_D hD) hS rfl hl.1 rfl (Nat.le_of_ble_eq_true rfl) dX1_takesAtBeginningOfAtom_6 ⟨Nat.zero_le _, Nat.zero_le _⟩) hS (fun H locs hP hS => ?_)
  refine lv_if_eq (tgt := 42) hx hb dX1_takesAtBeginningOfAtom_9 (by decide) (fun c1 => ?_) (fun c1 => ?_)
  · replace hf := (if_pos c1).symm.trans hf
    refine lv_aload_n hx hb dX1_takesAtBeginningOfAtom_42 rfl (lv_at hl 0 rfl) ?_
    refine lv_iload_n hx hb dX1_takesAtBeginningOfAtom_43 rfl (lv_at hl 1 rfl) ?_
    refine lv_bipush (v := 48) hx hb dX1_takesAtBeginningOfAtom_44 (by decide) ?_
    refine lv_isub hx hb dX1_takesAtBeginningOfAtom_46 ?_
    refine va_put (v := .int (v1 - 48)) (ty := .int) (C := RX1) (T := TX1) (N := 9) hx hb hw bfX10 tyX1 tyX1_ok nmX1 hown hK hP (wX_D hD) hS 21 (gx_21 E (upd g 10 0) a) rfl 6 (by decide) (hw _ bw111) (fun _ h9 => h9) rfl (by decide +kernel) rfl rfl (Nat.le_of_ble_eq_true rfl) dX1_takesAtBeginningOfAtom_47 (fun H locs hP _ hS => ?_)
    have hP := xP_eq (sx_g9 E (upd g 10 0) a (v1 - 48)) hP
    refine lv_aload_n hx hb dX1_takesAtBeginningOfAtom_50 rfl (lv_at hl 0 rfl) ?_
    refine lv_iconst (v := 3) hx hb dX1_takesAtBeginningOfAtom_51 (by decide) ?_
    refine va_put (v := .int 3) (ty := .int) (C := RX1) (T := TX1) (N := 9) hx hb hw bfX10 tyX1 tyX1_ok nmX1 hown hK hP (wX_D hD) hS 21 (gx_21 E (upd (upd g 10 0) 9 (v1 - 48)) a) rfl 5 (by decide) (hw _ bw99) (fun _ h9 => h9) rfl (by decide +kernel) rfl rfl (Nat.le_of_ble_eq_true rfl) dX1_takesAtBeginningOfAtom_52 (fun H locs hP _ hS => ?_)
    have hP := xP_eq (sx_g8 E (upd (upd g 10 0) 9 (v1 - 48)) a 3) hP
    refine lv_aload_n hx hb dX1_takesAtBeginningOfAtom_55 rfl (lv_at hl 0 rfl) ?_
    refine va_get (C := RX1) (T := TX1) (N := 9) hx hb hw bfX10 hown hK hP 21 (gx_21 E (upd (upd (upd g 10 0) 9 (v1 - 48)) 8 3) a) rfl 2 (by decide) (hw _ bw83) (fun _ h9 => h9) rfl dX1_takesAtBeginningOfAtom_56 ?_
    refine lv_aload_n hx hb dX1_takesAtBeginningOfAtom_59 rfl (lv_at hl 0 rfl) ?_
    refine va_get (C := RX1) (T := TX1) (N := 9) hx hb hw bfX10 hown hK hP 21 (gx_21 E (upd (upd (upd g 10 0) 9 (v1 - 48)) 8 3) a) rfl 6 (by decide) (hw _ bw111) (fun _ h9 => h9) rfl dX1_takesAtBeginningOfAtom_60 ?_
    refine xci (xRunV (rest := []) (As := [.int ((upd (upd (upd g 10 0) 9 (v1 - 48)) 8 3) 9)]) (C := RX10) (k := 1) C0 (c_X10_isThere l E (upd (upd (upd g 10 0) 9 (v1 - 48)) 8 3) a ((upd (upd (upd g 10 0) 9 (v1 - 48)) 8 3) 9)) bw107 bw112 bw115 bw113 bw114 hd_X10_isThere ⟨Nat.le_of_ble_eq_true rfl, Nat.le_of_ble_eq_true rfl⟩ hP (wX_D hD) hS (va_recv hK hP (ci := 10) rfl (gx_4 E (upd (upd (upd g 10 0) 9 (v1 - 48)) 8 3) a)) rfl hl.1 rfl (Nat.le_of_ble_eq_true rfl) dX1_takesAtBeginningOfAtom_63 ⟨Nat.zero_le _, Nat.zero_le _⟩) hS (fun H locs hP hS => ?_)
    obtain ⟨k2, hf⟩ := ck_some hf
    exact xz_retS (fr := (fun r => r.1)) (fw := (fun r => wX E r.2.1 r.2.2)) hx hb hr hlocks (Option.some.inj hf) (boB_bo k2) hP hS dX1_takesAtBeginningOfAtom_66
  · replace hf := (if_neg c1).symm.trans hf
    refine lv_aload_n hx hb dX1_takesAtBeginningOfAtom_12 rfl (lv_at hl 0 rfl) ?_
    refine lv_bipush (v := 8) hx hb dX1_takesAtBeginningOfAtom_13 (by decide) ?_
    refine va_put (v := .int 8) (ty := .int) (C := RX1) (T := TX1) (N := 9) hx hb hw bfX10 tyX1 tyX1_ok nmX1 hown hK hP (wX_D hD) hS 21 (gx_21 E (upd g 10 0) a) rfl 6 (by decide) (hw _ bw111) (fun _ h9 => h9) rfl (by decide +kernel) rfl rfl (Nat.le_of_ble_eq_true rfl) dX1_takesAtBeginningOfAtom_15 (fun H locs hP _ hS => ?_)
    have hP := xP_eq (sx_g9 E (upd g 10 0) a 8) hP
    refine lv_aload_n hx hb dX1_takesAtBeginningOfAtom_18 rfl (lv_at hl 0 rfl) ?_
    refine va_get (C := RX1) (T := TX1) (N := 9) hx hb hw bfX10 hown hK hP 21 (gx_21 E (upd (upd g 10 0) 9 8) a) rfl 8 (by decide) (hw _ bw81) (fun _ h9 => h9) rfl dX1_takesAtBeginningOfAtom_19 ?_
    refine lv_iconst (v := 0) hx hb dX1_takesAtBeginningOfAtom_22 (by decide) ?_
    refine lv_iload_n hx hb dX1_takesAtBeginningOfAtom_23 rfl (lv_at hl 1 rfl) ?_
    refine lv_bipush (v := 97) hx hb dX1_takesAtBeginningOfAtom_24 (by decide) ?_
    refine lv_isub hx hb dX1_takesAtBeginningOfAtom_26 ?_
    refine xcv (xRunN (rest := []) (As := [.ref (E.2.1 23), .int 0, .int (v1 - 97)]) (k := 3) C0 (c_put l E (wX E (upd (upd g 10 0) 9 8) a) 23 0 (v1 - 97) (gx_23 E (upd (upd g 10 0) 9 8) a) (Nat.le_of_ble_eq_true rfl) (sx_a23 E (upd (upd g 10 0) 9 8) a (putF 3 (a 23) 0 (v1 - 97)))) bw14 nw6 bw13 bw23 hd_X11_put ⟨Nat.le_of_ble_eq_true rfl, Nat.le_of_ble_eq_true rfl⟩ hP (wX_D hD) hS rfl hl.1 rfl (Nat.le_of_ble_eq_true rfl) dX1_takesAtBeginningOfAtom_27 ⟨Nat.zero_le _, Nat.zero_le _⟩) hS (fun H locs hP hS => ?_)
    refine lv_aload_n hx hb dX1_takesAtBeginningOfAtom_30 rfl (lv_at hl 0 rfl) ?_
    refine lv_iconst (v := 1) hx hb dX1_takesAtBeginningOfAtom_31 (by decide) ?_
    refine va_put (v := .int 1) (ty := .int) (C := RX1) (T := TX1) (N := 9) hx hb hw bfX10 tyX1 tyX1_ok nmX1 hown hK hP (wX_D hD) hS 21 (gx_21 E (upd (upd g 10 0) 9 8) (upA a 23 (putF 3 (a 23) 0 (v1 - 97)))) rfl 7 (by decide) (hw _ bw110) (fun _ h9 => h9) rfl (by decide +kernel) rfl rfl (Nat.le_of_ble_eq_true rfl) dX1_takesAtBeginningOfAtom_32 (fun H locs hP _ hS => ?_)
    have hP := xP_eq (sx_g10 E (upd (upd g 10 0) 9 8) (upA a 23 (putF 3 (a 23) 0 (v1 - 97))) 1) hP
    refine lv_aload_n hx hb dX1_takesAtBeginningOfAtom_35 rfl (lv_at hl 0 rfl) ?_
    refine lv_iconst (v := 2) hx hb dX1_takesAtBeginningOfAtom_36 (by decide) ?_
    refine va_put (v := .int 2) (ty := .int) (C := RX1) (T := TX1) (N := 9) hx hb hw bfX10 tyX1 tyX1_ok nmX1 hown hK hP (wX_D hD) hS 21 (gx_21 E (upd (upd (upd g 10 0) 9 8) 10 1) (upA a 23 (putF 3 (a 23) 0 (v1 - 97)))) rfl 5 (by decide) (hw _ bw99) (fun _ h9 => h9) rfl (by decide +kernel) rfl rfl (Nat.le_of_ble_eq_true rfl) dX1_takesAtBeginningOfAtom_37 (fun H locs hP _ hS => ?_)
    have hP := xP_eq (sx_g8 E (upd (upd (upd g 10 0) 9 8) 10 1) (upA a 23 (putF 3 (a 23) 0 (v1 - 97))) 2) hP
    refine lv_iconst (v := 1) hx hb dX1_takesAtBeginningOfAtom_40 (by decide) ?_
    exact xz_retS (fr := (fun r => r.1)) (fw := (fun r => wX E r.2.1 r.2.2)) hx hb hr hlocks (Option.some.inj hf) nz1 hP hS dX1_takesAtBeginningOfAtom_41
def t_X1_takesJust (g : xG) (a : xA) (v1 : Int32) (v2 : Int32) (v3 : Int32) : Int32 × xG := (if v2 = v1 then (1, (upd g 8 v3)) else (0, (upd g 8 v3)))
set_option maxRecDepth 100000 in
set_option maxHeartbeats 40000000 in
theorem c_X1_takesJust (l : Launch) (E : xE) (g : xG) (a : xA) (v1 : Int32) (v2 : Int32) (v3 : Int32) : xM l E yX1_takesJust cX1_takesJust 4 (some .boolean) 0 0 [.ref (E.2.1 21), .int v1, .int v2, .int v3] (wX E g a) (xQi E (t_X1_takesJust g a v1 v2 v3).1 (wX E (t_X1_takesJust g a v1 v2 v3).2 a)) := by
  obtain ⟨res, hres⟩ : ∃ z, z = t_X1_takesJust g a v1 v2 v3 := ⟨_, rfl⟩
  rw [← hres]
  have hf : _ = res := hres.symm
  unfold t_X1_takesJust at hf
  refine xM_of (by decide) (Nat.le_of_ble_eq_true rfl) ?_
  intro p e s m below meth c A hx hb hr hml hts hown hlocks hA hD hP hK hN hS ls hl
  have hw : ∀ w ∈ BW, w.before _ s = true := fun w h => hts w (List.mem_cons_of_mem _ h)
  have C0 : xCtx E p m c cX1_takesJust 4 s _ RX1 A yX1_takesJust cX1_takesJust 4 (some .boolean) := ⟨hx, hb, hml, hown, hts, hA, hK, hN⟩
  have hl : lv_has ls 4 [(0, .ref (E.2.1 21)), (1, .int v1), (2, .int v2), (3, .int v3)] := hl
  refine lv_aload_n hx hb dX1_takesJust_0 rfl (lv_at hl 0 rfl) ?_
  refine lv_iload_n hx hb dX1_takesJust_1 rfl (lv_at hl 3 rfl) ?_
  refine va_put (v := .int v3) (ty := .int) (C := RX1) (T := TX1) (N := 9) hx hb hw bfX10 tyX1 tyX1_ok nmX1 hown hK hP (wX_D hD) hS 21 (gx_21 E g a) rfl 5 (by decide) (hw _ bw99) (fun _ h9 => h9) rfl (by decide +kernel) rfl rfl (Nat.le_of_ble_eq_true rfl) dX1_takesJust_2 (fun H locs hP _ hS => ?_)
  have hP := xP_eq (sx_g8 E g a v3) hP
  refine lv_iload_n hx hb dX1_takesJust_5 rfl (lv_at hl 2 rfl) ?_
  refine lv_iload_n hx hb dX1_takesJust_6 rfl (lv_at hl 1 rfl) ?_
  refine lv_icmp_ne (tgt := 14) hx hb dX1_takesJust_7 (by decide) (fun c1 => ?_) (fun c1 => ?_)
  · replace hf := (if_neg c1).symm.trans hf
    refine lv_iconst (v := 0) hx hb dX1_takesJust_14 (by decide) ?_
    exact xz_retS (fr := (fun r => r.1)) (fw := (fun r => wX E r.2 a)) hx hb hr hlocks hf nz0 hP hS dX1_takesJust_15
  · replace hf := (if_pos c1).symm.trans hf
    refine lv_iconst (v := 1) hx hb dX1_takesJust_10 (by decide) ?_
    refine lv_goto (tgt := 15) hx hb dX1_takesJust_11 (by decide) ?_
    exact xz_retS (fr := (fun r => r.1)) (fw := (fun r => wX E r.2 a)) hx hb hr hlocks hf nz1 hP hS dX1_takesJust_15
def t_X10_placesOf (g : xG) (a : xA) (v1 : Int32) : Int32 := (atF 9 (a 5) v1)
set_option maxRecDepth 100000 in
set_option maxHeartbeats 40000000 in
theorem c_X10_placesOf (l : Launch) (E : xE) (g : xG) (a : xA) (v1 : Int32) : xM l E yX10_placesOf cX10_placesOf 2 (some .int) 1 21 [.ref (E.2.1 4), .int v1] (wX E g a) (xQi E (t_X10_placesOf g a v1) (wX E g a)) := by
  obtain ⟨res, hres⟩ : ∃ z, z = t_X10_placesOf g a v1 := ⟨_, rfl⟩
  rw [← hres]
  have hf : _ = res := hres.symm
  unfold t_X10_placesOf at hf
  refine xM_of (by decide) (Nat.le_of_ble_eq_true rfl) ?_
  intro p e s m below meth c A hx hb hr hml hts hown hlocks hA hD hP hK hN hS ls hl
  have hw : ∀ w ∈ BW, w.before _ s = true := fun w h => hts w (List.mem_cons_of_mem _ h)
  have C0 : xCtx E p m c cX10_placesOf 2 s _ RX10 A yX10_placesOf cX10_placesOf 2 (some .int) := ⟨hx, hb, hml, hown, hts, hA, hK, hN⟩
  have hl : lv_has ls 2 [(0, .ref (E.2.1 4)), (1, .int v1)] := hl
  refine lv_aload_n hx hb dX10_placesOf_0 rfl (lv_at hl 0 rfl) ?_
  refine va_get (C := RX10) (T := TX10) (N := 4) hx hb hw bfX100 hown hK hP 4 (gx_4 E g a) rfl 2 (by decide) (hw _ bw118) (fun _ h9 => h9) rfl dX10_placesOf_1 ?_
  refine lv_iload_n hx hb dX10_placesOf_4 rfl (lv_at hl 1 rfl) ?_
  refine xci (xRunN (rest := []) (As := [.ref (E.2.1 5), .int v1]) (k := 2) C0 (c_at l E (wX E g a) 5 v1 (gx_5 E g a) (Nat.le_of_ble_eq_true rfl)) bw9 nw24 bw13 bw12 hd_X11_at ⟨Nat.le_of_ble_eq_true rfl, Nat.le_of_ble_eq_true rfl⟩ hP (wX_D hD) hS rfl hl.1 rfl (Nat.le_of_ble_eq_true rfl) dX10_placesOf_5 ⟨Nat.zero_le _, Nat.zero_le _⟩) hS (fun H locs hP hS => ?_)
  exact xi_retS (fr := (fun r => r)) (fw := (fun r => wX E g a)) hx hb hr hlocks hf hP hS dX10_placesOf_8
def t_X2_placesOf (j : Nat) (g : xG) (a : xA) (v1 : Int32) : Int32 := (atF 16 (a (26 + 7 * j)) v1)
set_option maxRecDepth 100000 in
set_option maxHeartbeats 40000000 in
theorem c_X2_placesOf (l : Launch) (E : xE) (j : Nat) (hj : j < 2) (g : xG) (a : xA) (v1 : Int32) : xM l E yX2_placesOf cX2_placesOf 2 (some .int) 1 21 [.ref (E.2.1 (24 + 7 * j)), .int v1] (wX E g a) (xQi E (t_X2_placesOf j g a v1) (wX E g a)) := by
  obtain ⟨res, hres⟩ : ∃ z, z = t_X2_placesOf j g a v1 := ⟨_, rfl⟩
  rw [← hres]
  have hf : _ = res := hres.symm
  unfold t_X2_placesOf at hf
  refine xM_of (by decide) (Nat.le_of_ble_eq_true rfl) ?_
  intro p e s m below meth c A hx hb hr hml hts hown hlocks hA hD hP hK hN hS ls hl
  have hw : ∀ w ∈ BW, w.before _ s = true := fun w h => hts w (List.mem_cons_of_mem _ h)
  have C0 : xCtx E p m c cX2_placesOf 2 s _ RX2 A yX2_placesOf cX2_placesOf 2 (some .int) := ⟨hx, hb, hml, hown, hts, hA, hK, hN⟩
  have hl : lv_has ls 2 [(0, .ref (E.2.1 (24 + 7 * j))), (1, .int v1)] := hl
  refine lv_aload_n hx hb dX2_placesOf_0 rfl (lv_at hl 0 rfl) ?_
  refine va_get (C := RX2) (T := TX2) (N := 10) hx hb hw bfX20 hown hK hP (24 + 7 * j) (gx_inst E g a j hj) rfl 5 (by decide) (hw _ bw71) (fun _ h9 => h9) rfl dX2_placesOf_1 ?_
  refine lv_iload_n hx hb dX2_placesOf_4 rfl (lv_at hl 1 rfl) ?_
  refine xci (xRunN (rest := []) (As := [.ref (E.2.1 (26 + 7 * j)), .int v1]) (k := 2) C0 (c_at l E (wX E g a) (26 + 7 * j) v1 (gx_ia26 E g a j hj) (Nat.le_of_ble_eq_true rfl)) bw9 nw8 bw13 bw12 hd_X11_at ⟨Nat.le_of_ble_eq_true rfl, Nat.le_of_ble_eq_true rfl⟩ hP (wX_D hD) hS rfl hl.1 rfl (Nat.le_of_ble_eq_true rfl) dX2_placesOf_5 ⟨Nat.zero_le _, Nat.zero_le _⟩) hS (fun H locs hP hS => ?_)
  exact xi_retS (fr := (fun r => r)) (fw := (fun r => wX E g a)) hx hb hr hlocks hf hP hS dX2_placesOf_8
def t_X2_variableOn (j : Nat) (g : xG) (a : xA) (v1 : Int32) (v2 : Int32) : Int32 := (atF 48 (a (27 + 7 * j)) ((3 * v1) + v2))
set_option maxRecDepth 100000 in
set_option maxHeartbeats 40000000 in
theorem c_X2_variableOn (l : Launch) (E : xE) (j : Nat) (hj : j < 2) (g : xG) (a : xA) (v1 : Int32) (v2 : Int32) : xM l E yX2_variableOn cX2_variableOn 3 (some .int) 1 21 [.ref (E.2.1 (24 + 7 * j)), .int v1, .int v2] (wX E g a) (xQi E (t_X2_variableOn j g a v1 v2) (wX E g a)) := by
  obtain ⟨res, hres⟩ : ∃ z, z = t_X2_variableOn j g a v1 v2 := ⟨_, rfl⟩
  rw [← hres]
  have hf : _ = res := hres.symm
  unfold t_X2_variableOn at hf
  refine xM_of (by decide) (Nat.le_of_ble_eq_true rfl) ?_
  intro p e s m below meth c A hx hb hr hml hts hown hlocks hA hD hP hK hN hS ls hl
  have hw : ∀ w ∈ BW, w.before _ s = true := fun w h => hts w (List.mem_cons_of_mem _ h)
  have C0 : xCtx E p m c cX2_variableOn 3 s _ RX2 A yX2_variableOn cX2_variableOn 3 (some .int) := ⟨hx, hb, hml, hown, hts, hA, hK, hN⟩
  have hl : lv_has ls 3 [(0, .ref (E.2.1 (24 + 7 * j))), (1, .int v1), (2, .int v2)] := hl
  refine lv_aload_n hx hb dX2_variableOn_0 rfl (lv_at hl 0 rfl) ?_
  refine va_get (C := RX2) (T := TX2) (N := 10) hx hb hw bfX20 hown hK hP (24 + 7 * j) (gx_inst E g a j hj) rfl 6 (by decide) (hw _ bw72) (fun _ h9 => h9) rfl dX2_variableOn_1 ?_
  refine lv_iconst (v := 3) hx hb dX2_variableOn_4 (by decide) ?_
  refine lv_iload_n hx hb dX2_variableOn_5 rfl (lv_at hl 1 rfl) ?_
  refine lv_imul hx hb dX2_variableOn_6 ?_
  refine lv_iload_n hx hb dX2_variableOn_7 rfl (lv_at hl 2 rfl) ?_
  refine lv_iadd hx hb dX2_variableOn_8 ?_
  refine xci (xRunN (rest := []) (As := [.ref (E.2.1 (27 + 7 * j)), .int ((3 * v1) + v2)]) (k := 2) C0 (c_at l E (wX E g a) (27 + 7 * j) ((3 * v1) + v2) (gx_ia27 E g a j hj) (Nat.le_of_ble_eq_true rfl)) bw9 nw8 bw13 bw12 hd_X11_at ⟨Nat.le_of_ble_eq_true rfl, Nat.le_of_ble_eq_true rfl⟩ hP (wX_D hD) hS rfl hl.1 rfl (Nat.le_of_ble_eq_true rfl) dX2_variableOn_9 ⟨Nat.zero_le _, Nat.zero_le _⟩) hS (fun H locs hP hS => ?_)
  exact xi_retS (fr := (fun r => r)) (fw := (fun r => wX E g a)) hx hb hr hlocks hf hP hS dX2_variableOn_12
def f_X2_lowestVariable_5 (j : Nat) (g : xG) (a : xA) : Nat → Int32 → Int32 → Int32 → Option (Int32)
  | 0, _, _, _ => none
  | n + 1, x1, x2, x3 => (if (t_X2_placesOf j g a x1) ≤ x3 then some x2 else f_X2_lowestVariable_5 j g a n x1 (if (t_X2_variableOn j g a x1 x3) < x2 then (t_X2_variableOn j g a x1 x3) else x2) (x3 + 1))
theorem e_X2_lowestVariable_5 (j : Nat) (g : xG) (a : xA) (n : Nat) (x1 : Int32) (x2 : Int32) (x3 : Int32) : f_X2_lowestVariable_5 j g a (n + 1) x1 x2 x3 = (if (t_X2_placesOf j g a x1) ≤ x3 then some x2 else f_X2_lowestVariable_5 j g a n x1 (if (t_X2_variableOn j g a x1 x3) < x2 then (t_X2_variableOn j g a x1 x3) else x2) (x3 + 1)) := rfl
def f_X2_lowestVariable (j : Nat) (g : xG) (a : xA) (v1 : Int32) : Option (Int32) := f_X2_lowestVariable_5 j g a fu v1 6 0
set_option maxRecDepth 100000 in
set_option maxHeartbeats 40000000 in
theorem c_X2_lowestVariable (l : Launch) (E : xE) (j : Nat) (hj : j < 2) (g : xG) (a : xA) (v1 : Int32) {res : Int32} (hf : f_X2_lowestVariable j g a v1 = some res) : xM l E yX2_lowestVariable cX2_lowestVariable 4 (some .int) 2 43 [.ref (E.2.1 (24 + 7 * j)), .int v1] (wX E g a) (xQi E res (wX E g a)) := by
  unfold f_X2_lowestVariable at hf
  refine xM_of (by decide) (Nat.le_of_ble_eq_true rfl) ?_
  intro p e s m below meth c A hx hb hr hml hts hown hlocks hA hD hP hK hN hS ls hl
  have hw : ∀ w ∈ BW, w.before _ s = true := fun w h => hts w (List.mem_cons_of_mem _ h)
  have C0 : xCtx E p m c cX2_lowestVariable 4 s _ RX2 A yX2_lowestVariable cX2_lowestVariable 4 (some .int) := ⟨hx, hb, hml, hown, hts, hA, hK, hN⟩
  have hl : lv_has ls 4 [(0, .ref (E.2.1 (24 + 7 * j))), (1, .int v1)] := hl
  have B5 : ∀ (n : Nat) (x1 : Int32) (x2 : Int32) (x3 : Int32) (H : Heap) (locs : List Loc) (ls : Array Slot), va_P E.1 vwCl (wX E g a) H → va_S A s.heap H locs → lv_has ls 4 [(0, .ref (E.2.1 (24 + 7 * j))), (1, .int x1), (2, .int x2), (3, .int x3)] → f_X2_lowestVariable_5 j g a n x1 x2 x3 = some res → W p l e ({ frames := 2, cells := 0, slots := 0, locals := 43 }) s m ([.ref (E.2.1 (24 + 7 * j)), .int v1] : List Value).toArray below meth c H locs 0 0 (MQ below ((xQi E res (wX E g a)) A) ([.ref (E.2.1 (24 + 7 * j)), .int v1] : List Value).toArray s 0 0 A) (F0 m 5 ls []) := by
    intro n
    induction n with
    | zero => intro x1 x2 x3 H locs ls hP hS hl hf; exact absurd (show (none : Option (Int32)) = some res from hf) (by intro h; cases h)
    | succ n ih =>
      intro x1 x2 x3 H locs ls hP hS hl hf
      replace hf := (e_X2_lowestVariable_5 j g a n x1 x2 x3).symm.trans hf
      refine lv_iload_n hx hb dX2_lowestVariable_5 rfl (lv_at hl 3 rfl) ?_
      refine lv_aload_n hx hb dX2_lowestVariable_6 rfl (lv_at hl 0 rfl) ?_
      refine lv_iload_n hx hb dX2_lowestVariable_7 rfl (lv_at hl 1 rfl) ?_
      refine xci (xRunV (rest := [.int x3]) (As := [.int x1]) (C := RX2) (k := 1) C0 (c_X2_placesOf l E j hj g a x1) bw119 bw126 bw86 bw127 bw128 hd_X2_placesOf ⟨Nat.le_of_ble_eq_true rfl, Nat.le_of_ble_eq_true rfl⟩ hP (wX_D hD) hS (va_recv hK hP (ci := 2) rfl (gx_inst E g a j hj)) rfl hl.1 rfl (Nat.le_of_ble_eq_true rfl) dX2_lowestVariable_8 ⟨Nat.zero_le _, Nat.zero_le _⟩) hS (fun H locs hP hS => ?_)
      refine lv_icmp_ge (tgt := 31) hx hb dX2_lowestVariable_11 (by decide) (fun c1 => ?_) (fun c1 => ?_)
      · replace hf := (if_pos c1).symm.trans hf
        refine lv_iload_n hx hb dX2_lowestVariable_31 rfl (lv_at hl 2 rfl) ?_
        exact xi_retS (fr := (fun r => r)) (fw := (fun r => wX E g a)) hx hb hr hlocks (Option.some.inj hf) hP hS dX2_lowestVariable_32
      · replace hf := (if_neg c1).symm.trans hf
        refine lv_iload_n hx hb dX2_lowestVariable_14 rfl (lv_at hl 2 rfl) ?_
        refine lv_aload_n hx hb dX2_lowestVariable_15 rfl (lv_at hl 0 rfl) ?_
        refine lv_iload_n hx hb dX2_lowestVariable_16 rfl (lv_at hl 1 rfl) ?_
        refine lv_iload_n hx hb dX2_lowestVariable_17 rfl (lv_at hl 3 rfl) ?_
        refine xci (xRunV (rest := [.int x2]) (As := [.int x1, .int x3]) (C := RX2) (k := 2) C0 (c_X2_variableOn l E j hj g a x1 x3) bw120 bw129 bw86 bw130 bw131 hd_X2_variableOn ⟨Nat.le_of_ble_eq_true rfl, Nat.le_of_ble_eq_true rfl⟩ hP (wX_D hD) hS (va_recv hK hP (ci := 2) rfl (gx_inst E g a j hj)) rfl hl.1 rfl (Nat.le_of_ble_eq_true rfl) dX2_lowestVariable_18 ⟨Nat.zero_le _, Nat.zero_le _⟩) hS (fun H locs hP hS => ?_)
        refine va_mmin hx hb (hml.trans hl.1.symm) hown (hw _ bw122) (hw _ bw123) (hw _ bw124) (hw _ bw125) (Nat.le_of_ble_eq_true rfl) (Nat.le_of_ble_eq_true rfl) (Nat.zero_le _) (Nat.zero_le _) dX2_lowestVariable_21 ?_
        refine lv_istore_n (lv' := [(2, .int (if (t_X2_variableOn j g a x1 x3) < x2 then (t_X2_variableOn j g a x1 x3) else x2)), (0, .ref (E.2.1 (24 + 7 * j))), (1, .int x1), (3, .int x3)]) hx hb dX2_lowestVariable_24 rfl hl (by decide) rfl (fun ls hl => ?_)
        refine lv_iinc (v := (x3 + 1)) (lv' := [(3, .int (x3 + 1)), (2, .int (if (t_X2_variableOn j g a x1 x3) < x2 then (t_X2_variableOn j g a x1 x3) else x2)), (0, .ref (E.2.1 (24 + 7 * j))), (1, .int x1)]) hx hb dX2_lowestVariable_25 hl (k := 3) rfl rfl (by decide) rfl (fun ls hl => ?_)
        refine lv_goto (tgt := 5) hx hb dX2_lowestVariable_28 (by decide) ?_
        exact ih x1 (if (t_X2_variableOn j g a x1 x3) < x2 then (t_X2_variableOn j g a x1 x3) else x2) (x3 + 1) _ _ _ hP hS (lv_sub hl [2, 3, 1, 0] rfl) hf
  refine lv_bipush (v := 6) hx hb dX2_lowestVariable_0 (by decide) ?_
  refine lv_istore_n (lv' := [(2, .int 6), (0, .ref (E.2.1 (24 + 7 * j))), (1, .int v1)]) hx hb dX2_lowestVariable_2 rfl hl (by decide) rfl (fun ls hl => ?_)
  refine lv_iconst (v := 0) hx hb dX2_lowestVariable_3 (by decide) ?_
  refine lv_istore_n (lv' := [(3, .int 0), (2, .int 6), (0, .ref (E.2.1 (24 + 7 * j))), (1, .int v1)]) hx hb dX2_lowestVariable_4 rfl hl (by decide) rfl (fun ls hl => ?_)
  exact B5 fu v1 6 0 _ _ _ hP hS (lv_sub hl [2, 3, 1, 0] rfl) hf
def f_X2_add (j : Nat) (g : xG) (a : xA) (v1 : Int32) (v2 : Int32) (v3 : Int32) (v4 : Int32) : Option (xG × xA) := Option.bind (f_X2_lowestVariable j g (upA (upA (upA (upA (upA a (25 + 7 * j) (putF 16 (a (25 + 7 * j)) (g (11 + 2 * j)) v1)) (26 + 7 * j) (putF 16 ((upA a (25 + 7 * j) (putF 16 (a (25 + 7 * j)) (g (11 + 2 * j)) v1)) (26 + 7 * j)) (g (11 + 2 * j)) (t_X10_placesOf g (upA a (25 + 7 * j) (putF 16 (a (25 + 7 * j)) (g (11 + 2 * j)) v1)) v1))) (27 + 7 * j) (putF 48 ((upA (upA a (25 + 7 * j) (putF 16 (a (25 + 7 * j)) (g (11 + 2 * j)) v1)) (26 + 7 * j) (putF 16 ((upA a (25 + 7 * j) (putF 16 (a (25 + 7 * j)) (g (11 + 2 * j)) v1)) (26 + 7 * j)) (g (11 + 2 * j)) (t_X10_placesOf g (upA a (25 + 7 * j) (putF 16 (a (25 + 7 * j)) (g (11 + 2 * j)) v1)) v1))) (27 + 7 * j)) (3 * (g (11 + 2 * j))) v2)) (27 + 7 * j) (putF 48 ((upA (upA (upA a (25 + 7 * j) (putF 16 (a (25 + 7 * j)) (g (11 + 2 * j)) v1)) (26 + 7 * j) (putF 16 ((upA a (25 + 7 * j) (putF 16 (a (25 + 7 * j)) (g (11 + 2 * j)) v1)) (26 + 7 * j)) (g (11 + 2 * j)) (t_X10_placesOf g (upA a (25 + 7 * j) (putF 16 (a (25 + 7 * j)) (g (11 + 2 * j)) v1)) v1))) (27 + 7 * j) (putF 48 ((upA (upA a (25 + 7 * j) (putF 16 (a (25 + 7 * j)) (g (11 + 2 * j)) v1)) (26 + 7 * j) (putF 16 ((upA a (25 + 7 * j) (putF 16 (a (25 + 7 * j)) (g (11 + 2 * j)) v1)) (26 + 7 * j)) (g (11 + 2 * j)) (t_X10_placesOf g (upA a (25 + 7 * j) (putF 16 (a (25 + 7 * j)) (g (11 + 2 * j)) v1)) v1))) (27 + 7 * j)) (3 * (g (11 + 2 * j))) v2)) (27 + 7 * j)) ((3 * (g (11 + 2 * j))) + 1) v3)) (27 + 7 * j) (putF 48 ((upA (upA (upA (upA a (25 + 7 * j) (putF 16 (a (25 + 7 * j)) (g (11 + 2 * j)) v1)) (26 + 7 * j) (putF 16 ((upA a (25 + 7 * j) (putF 16 (a (25 + 7 * j)) (g (11 + 2 * j)) v1)) (26 + 7 * j)) (g (11 + 2 * j)) (t_X10_placesOf g (upA a (25 + 7 * j) (putF 16 (a (25 + 7 * j)) (g (11 + 2 * j)) v1)) v1))) (27 + 7 * j) (putF 48 ((upA (upA a (25 + 7 * j) (putF 16 (a (25 + 7 * j)) (g (11 + 2 * j)) v1)) (26 + 7 * j) (putF 16 ((upA a (25 + 7 * j) (putF 16 (a (25 + 7 * j)) (g (11 + 2 * j)) v1)) (26 + 7 * j)) (g (11 + 2 * j)) (t_X10_placesOf g (upA a (25 + 7 * j) (putF 16 (a (25 + 7 * j)) (g (11 + 2 * j)) v1)) v1))) (27 + 7 * j)) (3 * (g (11 + 2 * j))) v2)) (27 + 7 * j) (putF 48 ((upA (upA (upA a (25 + 7 * j) (putF 16 (a (25 + 7 * j)) (g (11 + 2 * j)) v1)) (26 + 7 * j) (putF 16 ((upA a (25 + 7 * j) (putF 16 (a (25 + 7 * j)) (g (11 + 2 * j)) v1)) (26 + 7 * j)) (g (11 + 2 * j)) (t_X10_placesOf g (upA a (25 + 7 * j) (putF 16 (a (25 + 7 * j)) (g (11 + 2 * j)) v1)) v1))) (27 + 7 * j) (putF 48 ((upA (upA a (25 + 7 * j) (putF 16 (a (25 + 7 * j)) (g (11 + 2 * j)) v1)) (26 + 7 * j) (putF 16 ((upA a (25 + 7 * j) (putF 16 (a (25 + 7 * j)) (g (11 + 2 * j)) v1)) (26 + 7 * j)) (g (11 + 2 * j)) (t_X10_placesOf g (upA a (25 + 7 * j) (putF 16 (a (25 + 7 * j)) (g (11 + 2 * j)) v1)) v1))) (27 + 7 * j)) (3 * (g (11 + 2 * j))) v2)) (27 + 7 * j)) ((3 * (g (11 + 2 * j))) + 1) v3)) (27 + 7 * j)) ((3 * (g (11 + 2 * j))) + 2) v4)) (g (11 + 2 * j))) (fun u1 => some ((upd g (11 + 2 * j) ((g (11 + 2 * j)) + 1)), (upA (upA (upA (upA (upA (upA a (25 + 7 * j) (putF 16 (a (25 + 7 * j)) (g (11 + 2 * j)) v1)) (26 + 7 * j) (putF 16 ((upA a (25 + 7 * j) (putF 16 (a (25 + 7 * j)) (g (11 + 2 * j)) v1)) (26 + 7 * j)) (g (11 + 2 * j)) (t_X10_placesOf g (upA a (25 + 7 * j) (putF 16 (a (25 + 7 * j)) (g (11 + 2 * j)) v1)) v1))) (27 + 7 * j) (putF 48 ((upA (upA a (25 + 7 * j) (putF 16 (a (25 + 7 * j)) (g (11 + 2 * j)) v1)) (26 + 7 * j) (putF 16 ((upA a (25 + 7 * j) (putF 16 (a (25 + 7 * j)) (g (11 + 2 * j)) v1)) (26 + 7 * j)) (g (11 + 2 * j)) (t_X10_placesOf g (upA a (25 + 7 * j) (putF 16 (a (25 + 7 * j)) (g (11 + 2 * j)) v1)) v1))) (27 + 7 * j)) (3 * (g (11 + 2 * j))) v2)) (27 + 7 * j) (putF 48 ((upA (upA (upA a (25 + 7 * j) (putF 16 (a (25 + 7 * j)) (g (11 + 2 * j)) v1)) (26 + 7 * j) (putF 16 ((upA a (25 + 7 * j) (putF 16 (a (25 + 7 * j)) (g (11 + 2 * j)) v1)) (26 + 7 * j)) (g (11 + 2 * j)) (t_X10_placesOf g (upA a (25 + 7 * j) (putF 16 (a (25 + 7 * j)) (g (11 + 2 * j)) v1)) v1))) (27 + 7 * j) (putF 48 ((upA (upA a (25 + 7 * j) (putF 16 (a (25 + 7 * j)) (g (11 + 2 * j)) v1)) (26 + 7 * j) (putF 16 ((upA a (25 + 7 * j) (putF 16 (a (25 + 7 * j)) (g (11 + 2 * j)) v1)) (26 + 7 * j)) (g (11 + 2 * j)) (t_X10_placesOf g (upA a (25 + 7 * j) (putF 16 (a (25 + 7 * j)) (g (11 + 2 * j)) v1)) v1))) (27 + 7 * j)) (3 * (g (11 + 2 * j))) v2)) (27 + 7 * j)) ((3 * (g (11 + 2 * j))) + 1) v3)) (27 + 7 * j) (putF 48 ((upA (upA (upA (upA a (25 + 7 * j) (putF 16 (a (25 + 7 * j)) (g (11 + 2 * j)) v1)) (26 + 7 * j) (putF 16 ((upA a (25 + 7 * j) (putF 16 (a (25 + 7 * j)) (g (11 + 2 * j)) v1)) (26 + 7 * j)) (g (11 + 2 * j)) (t_X10_placesOf g (upA a (25 + 7 * j) (putF 16 (a (25 + 7 * j)) (g (11 + 2 * j)) v1)) v1))) (27 + 7 * j) (putF 48 ((upA (upA a (25 + 7 * j) (putF 16 (a (25 + 7 * j)) (g (11 + 2 * j)) v1)) (26 + 7 * j) (putF 16 ((upA a (25 + 7 * j) (putF 16 (a (25 + 7 * j)) (g (11 + 2 * j)) v1)) (26 + 7 * j)) (g (11 + 2 * j)) (t_X10_placesOf g (upA a (25 + 7 * j) (putF 16 (a (25 + 7 * j)) (g (11 + 2 * j)) v1)) v1))) (27 + 7 * j)) (3 * (g (11 + 2 * j))) v2)) (27 + 7 * j) (putF 48 ((upA (upA (upA a (25 + 7 * j) (putF 16 (a (25 + 7 * j)) (g (11 + 2 * j)) v1)) (26 + 7 * j) (putF 16 ((upA a (25 + 7 * j) (putF 16 (a (25 + 7 * j)) (g (11 + 2 * j)) v1)) (26 + 7 * j)) (g (11 + 2 * j)) (t_X10_placesOf g (upA a (25 + 7 * j) (putF 16 (a (25 + 7 * j)) (g (11 + 2 * j)) v1)) v1))) (27 + 7 * j) (putF 48 ((upA (upA a (25 + 7 * j) (putF 16 (a (25 + 7 * j)) (g (11 + 2 * j)) v1)) (26 + 7 * j) (putF 16 ((upA a (25 + 7 * j) (putF 16 (a (25 + 7 * j)) (g (11 + 2 * j)) v1)) (26 + 7 * j)) (g (11 + 2 * j)) (t_X10_placesOf g (upA a (25 + 7 * j) (putF 16 (a (25 + 7 * j)) (g (11 + 2 * j)) v1)) v1))) (27 + 7 * j)) (3 * (g (11 + 2 * j))) v2)) (27 + 7 * j)) ((3 * (g (11 + 2 * j))) + 1) v3)) (27 + 7 * j)) ((3 * (g (11 + 2 * j))) + 2) v4)) (28 + 7 * j) (putF 16 ((upA (upA (upA (upA (upA a (25 + 7 * j) (putF 16 (a (25 + 7 * j)) (g (11 + 2 * j)) v1)) (26 + 7 * j) (putF 16 ((upA a (25 + 7 * j) (putF 16 (a (25 + 7 * j)) (g (11 + 2 * j)) v1)) (26 + 7 * j)) (g (11 + 2 * j)) (t_X10_placesOf g (upA a (25 + 7 * j) (putF 16 (a (25 + 7 * j)) (g (11 + 2 * j)) v1)) v1))) (27 + 7 * j) (putF 48 ((upA (upA a (25 + 7 * j) (putF 16 (a (25 + 7 * j)) (g (11 + 2 * j)) v1)) (26 + 7 * j) (putF 16 ((upA a (25 + 7 * j) (putF 16 (a (25 + 7 * j)) (g (11 + 2 * j)) v1)) (26 + 7 * j)) (g (11 + 2 * j)) (t_X10_placesOf g (upA a (25 + 7 * j) (putF 16 (a (25 + 7 * j)) (g (11 + 2 * j)) v1)) v1))) (27 + 7 * j)) (3 * (g (11 + 2 * j))) v2)) (27 + 7 * j) (putF 48 ((upA (upA (upA a (25 + 7 * j) (putF 16 (a (25 + 7 * j)) (g (11 + 2 * j)) v1)) (26 + 7 * j) (putF 16 ((upA a (25 + 7 * j) (putF 16 (a (25 + 7 * j)) (g (11 + 2 * j)) v1)) (26 + 7 * j)) (g (11 + 2 * j)) (t_X10_placesOf g (upA a (25 + 7 * j) (putF 16 (a (25 + 7 * j)) (g (11 + 2 * j)) v1)) v1))) (27 + 7 * j) (putF 48 ((upA (upA a (25 + 7 * j) (putF 16 (a (25 + 7 * j)) (g (11 + 2 * j)) v1)) (26 + 7 * j) (putF 16 ((upA a (25 + 7 * j) (putF 16 (a (25 + 7 * j)) (g (11 + 2 * j)) v1)) (26 + 7 * j)) (g (11 + 2 * j)) (t_X10_placesOf g (upA a (25 + 7 * j) (putF 16 (a (25 + 7 * j)) (g (11 + 2 * j)) v1)) v1))) (27 + 7 * j)) (3 * (g (11 + 2 * j))) v2)) (27 + 7 * j)) ((3 * (g (11 + 2 * j))) + 1) v3)) (27 + 7 * j) (putF 48 ((upA (upA (upA (upA a (25 + 7 * j) (putF 16 (a (25 + 7 * j)) (g (11 + 2 * j)) v1)) (26 + 7 * j) (putF 16 ((upA a (25 + 7 * j) (putF 16 (a (25 + 7 * j)) (g (11 + 2 * j)) v1)) (26 + 7 * j)) (g (11 + 2 * j)) (t_X10_placesOf g (upA a (25 + 7 * j) (putF 16 (a (25 + 7 * j)) (g (11 + 2 * j)) v1)) v1))) (27 + 7 * j) (putF 48 ((upA (upA a (25 + 7 * j) (putF 16 (a (25 + 7 * j)) (g (11 + 2 * j)) v1)) (26 + 7 * j) (putF 16 ((upA a (25 + 7 * j) (putF 16 (a (25 + 7 * j)) (g (11 + 2 * j)) v1)) (26 + 7 * j)) (g (11 + 2 * j)) (t_X10_placesOf g (upA a (25 + 7 * j) (putF 16 (a (25 + 7 * j)) (g (11 + 2 * j)) v1)) v1))) (27 + 7 * j)) (3 * (g (11 + 2 * j))) v2)) (27 + 7 * j) (putF 48 ((upA (upA (upA a (25 + 7 * j) (putF 16 (a (25 + 7 * j)) (g (11 + 2 * j)) v1)) (26 + 7 * j) (putF 16 ((upA a (25 + 7 * j) (putF 16 (a (25 + 7 * j)) (g (11 + 2 * j)) v1)) (26 + 7 * j)) (g (11 + 2 * j)) (t_X10_placesOf g (upA a (25 + 7 * j) (putF 16 (a (25 + 7 * j)) (g (11 + 2 * j)) v1)) v1))) (27 + 7 * j) (putF 48 ((upA (upA a (25 + 7 * j) (putF 16 (a (25 + 7 * j)) (g (11 + 2 * j)) v1)) (26 + 7 * j) (putF 16 ((upA a (25 + 7 * j) (putF 16 (a (25 + 7 * j)) (g (11 + 2 * j)) v1)) (26 + 7 * j)) (g (11 + 2 * j)) (t_X10_placesOf g (upA a (25 + 7 * j) (putF 16 (a (25 + 7 * j)) (g (11 + 2 * j)) v1)) v1))) (27 + 7 * j)) (3 * (g (11 + 2 * j))) v2)) (27 + 7 * j)) ((3 * (g (11 + 2 * j))) + 1) v3)) (27 + 7 * j)) ((3 * (g (11 + 2 * j))) + 2) v4)) (28 + 7 * j)) (g (11 + 2 * j)) u1))))
set_option maxRecDepth 100000 in
set_option maxHeartbeats 40000000 in
theorem c_X2_add (l : Launch) (E : xE) (j : Nat) (hj : j < 2) (g : xG) (a : xA) (v1 : Int32) (v2 : Int32) (v3 : Int32) (v4 : Int32) {res : xG × xA} (hf : f_X2_add j g a v1 v2 v3 v4 = some res) : xM l E yX2_add cX2_add 5 none 3 66 [.ref (E.2.1 (24 + 7 * j)), .int v1, .int v2, .int v3, .int v4] (wX E g a) (xQv E (wX E res.1 res.2)) := by
  unfold f_X2_add at hf
  refine xM_of (by decide) (Nat.le_of_ble_eq_true rfl) ?_
  intro p e s m below meth c A hx hb hr hml hts hown hlocks hA hD hP hK hN hS ls hl
  have hw : ∀ w ∈ BW, w.before _ s = true := fun w h => hts w (List.mem_cons_of_mem _ h)
  have C0 : xCtx E p m c cX2_add 5 s _ RX2 A yX2_add cX2_add 5 none := ⟨hx, hb, hml, hown, hts, hA, hK, hN⟩
  have hl : lv_has ls 5 [(0, .ref (E.2.1 (24 + 7 * j))), (1, .int v1), (2, .int v2), (3, .int v3), (4, .int v4)] := hl
  refine lv_aload_n hx hb dX2_add_0 rfl (lv_at hl 0 rfl) ?_
  refine va_get (C := RX2) (T := TX2) (N := 10) hx hb hw bfX20 hown hK hP (24 + 7 * j) (gx_inst E g a j hj) rfl 4 (by decide) (hw _ bw70) (fun _ h9 => h9) rfl dX2_add_1 ?_
  refine lv_aload_n hx hb dX2_add_4 rfl (lv_at hl 0 rfl) ?_
  refine va_get (C := RX2) (T := TX2) (N := 10) hx hb hw bfX20 hown hK hP (24 + 7 * j) (gx_inst E g a j hj) rfl 0 (by decide) (hw _ bw92) (fun _ h9 => h9) rfl dX2_add_5 ?_
  refine lv_iload_n hx hb dX2_add_8 rfl (lv_at hl 1 rfl) ?_
  refine xcv (xRunN (rest := []) (As := [.ref (E.2.1 (25 + 7 * j)), .int (g (11 + 2 * j)), .int v1]) (k := 3) C0 (c_put l E (wX E g a) (25 + 7 * j) (g (11 + 2 * j)) v1 (gx_ia25 E g a j hj) (Nat.le_of_ble_eq_true rfl) (sx_ia25 E g a j hj (putF 16 (a (25 + 7 * j)) (g (11 + 2 * j)) v1))) bw14 nw7 bw13 bw23 hd_X11_put ⟨Nat.le_of_ble_eq_true rfl, Nat.le_of_ble_eq_true rfl⟩ hP (wX_D hD) hS rfl hl.1 rfl (Nat.le_of_ble_eq_true rfl) dX2_add_9 ⟨Nat.zero_le _, Nat.zero_le _⟩) hS (fun H locs hP hS => ?_)
  refine lv_aload_n hx hb dX2_add_12 rfl (lv_at hl 0 rfl) ?_
  refine va_get (C := RX2) (T := TX2) (N := 10) hx hb hw bfX20 hown hK hP (24 + 7 * j) (gx_inst E g (upA a (25 + 7 * j) (putF 16 (a (25 + 7 * j)) (g (11 + 2 * j)) v1)) j hj) rfl 5 (by decide) (hw _ bw71) (fun _ h9 => h9) rfl dX2_add_13 ?_
  refine lv_aload_n hx hb dX2_add_16 rfl (lv_at hl 0 rfl) ?_
  refine va_get (C := RX2) (T := TX2) (N := 10) hx hb hw bfX20 hown hK hP (24 + 7 * j) (gx_inst E g (upA a (25 + 7 * j) (putF 16 (a (25 + 7 * j)) (g (11 + 2 * j)) v1)) j hj) rfl 0 (by decide) (hw _ bw92) (fun _ h9 => h9) rfl dX2_add_17 ?_
  refine lv_aload_n hx hb dX2_add_20 rfl (lv_at hl 0 rfl) ?_
  refine va_get (C := RX2) (T := TX2) (N := 10) hx hb hw bfX20 hown hK hP (24 + 7 * j) (gx_inst E g (upA a (25 + 7 * j) (putF 16 (a (25 + 7 * j)) (g (11 + 2 * j)) v1)) j hj) rfl 2 (by decide) (hw _ bw77) (fun _ h9 => h9) rfl dX2_add_21 ?_
  refine lv_iload_n hx hb dX2_add_24 rfl (lv_at hl 1 rfl) ?_
  refine xci (xRunV (rest := [.int (g (11 + 2 * j)), .ref (E.2.1 (26 + 7 * j))]) (As := [.int v1]) (C := RX10) (k := 1) C0 (c_X10_placesOf l E g (upA a (25 + 7 * j) (putF 16 (a (25 + 7 * j)) (g (11 + 2 * j)) v1)) v1) bw117 bw132 bw115 bw133 bw134 hd_X10_placesOf ⟨Nat.le_of_ble_eq_true rfl, Nat.le_of_ble_eq_true rfl⟩ hP (wX_D hD) hS (va_recv hK hP (ci := 10) rfl (gx_4 E g (upA a (25 + 7 * j) (putF 16 (a (25 + 7 * j)) (g (11 + 2 * j)) v1)))) rfl hl.1 rfl (Nat.le_of_ble_eq_true rfl) dX2_add_25 ⟨Nat.zero_le _, Nat.zero_le _⟩) hS (fun H locs hP hS => ?_)
  refine xcv (xRunN (rest := []) (As := [.ref (E.2.1 (26 + 7 * j)), .int (g (11 + 2 * j)), .int (t_X10_placesOf g (upA a (25 + 7 * j) (putF 16 (a (25 + 7 * j)) (g (11 + 2 * j)) v1)) v1)]) (k := 3) C0 (c_put l E (wX E g (upA a (25 + 7 * j) (putF 16 (a (25 + 7 * j)) (g (11 + 2 * j)) v1))) (26 + 7 * j) (g (11 + 2 * j)) (t_X10_placesOf g (upA a (25 + 7 * j) (putF 16 (a (25 + 7 * j)) (g (11 + 2 * j)) v1)) v1) (gx_ia26 E g (upA a (25 + 7 * j) (putF 16 (a (25 + 7 * j)) (g (11 + 2 * j)) v1)) j hj) (Nat.le_of_ble_eq_true rfl) (sx_ia26 E g (upA a (25 + 7 * j) (putF 16 (a (25 + 7 * j)) (g (11 + 2 * j)) v1)) j hj (putF 16 ((upA a (25 + 7 * j) (putF 16 (a (25 + 7 * j)) (g (11 + 2 * j)) v1)) (26 + 7 * j)) (g (11 + 2 * j)) (t_X10_placesOf g (upA a (25 + 7 * j) (putF 16 (a (25 + 7 * j)) (g (11 + 2 * j)) v1)) v1)))) bw14 nw7 bw13 bw23 hd_X11_put ⟨Nat.le_of_ble_eq_true rfl, Nat.le_of_ble_eq_true rfl⟩ hP (wX_D hD) hS rfl hl.1 rfl (Nat.le_of_ble_eq_true rfl) dX2_add_28 ⟨Nat.zero_le _, Nat.zero_le _⟩) hS (fun H locs hP hS => ?_)
  refine lv_aload_n hx hb dX2_add_31 rfl (lv_at hl 0 rfl) ?_
  refine va_get (C := RX2) (T := TX2) (N := 10) hx hb hw bfX20 hown hK hP (24 + 7 * j) (gx_inst E g (upA (upA a (25 + 7 * j) (putF 16 (a (25 + 7 * j)) (g (11 + 2 * j)) v1)) (26 + 7 * j) (putF 16 ((upA a (25 + 7 * j) (putF 16 (a (25 + 7 * j)) (g (11 + 2 * j)) v1)) (26 + 7 * j)) (g (11 + 2 * j)) (t_X10_placesOf g (upA a (25 + 7 * j) (putF 16 (a (25 + 7 * j)) (g (11 + 2 * j)) v1)) v1))) j hj) rfl 6 (by decide) (hw _ bw72) (fun _ h9 => h9) rfl dX2_add_32 ?_
  refine lv_iconst (v := 3) hx hb dX2_add_35 (by decide) ?_
  refine lv_aload_n hx hb dX2_add_36 rfl (lv_at hl 0 rfl) ?_
  refine va_get (C := RX2) (T := TX2) (N := 10) hx hb hw bfX20 hown hK hP (24 + 7 * j) (gx_inst E g (upA (upA a (25 + 7 * j) (putF 16 (a (25 + 7 * j)) (g (11 + 2 * j)) v1)) (26 + 7 * j) (putF 16 ((upA a (25 + 7 * j) (putF 16 (a (25 + 7 * j)) (g (11 + 2 * j)) v1)) (26 + 7 * j)) (g (11 + 2 * j)) (t_X10_placesOf g (upA a (25 + 7 * j) (putF 16 (a (25 + 7 * j)) (g (11 + 2 * j)) v1)) v1))) j hj) rfl 0 (by decide) (hw _ bw92) (fun _ h9 => h9) rfl dX2_add_37 ?_
  refine lv_imul hx hb dX2_add_40 ?_
  refine lv_iload_n hx hb dX2_add_41 rfl (lv_at hl 2 rfl) ?_
  refine xcv (xRunN (rest := []) (As := [.ref (E.2.1 (27 + 7 * j)), .int (3 * (g (11 + 2 * j))), .int v2]) (k := 3) C0 (c_put l E (wX E g (upA (upA a (25 + 7 * j) (putF 16 (a (25 + 7 * j)) (g (11 + 2 * j)) v1)) (26 + 7 * j) (putF 16 ((upA a (25 + 7 * j) (putF 16 (a (25 + 7 * j)) (g (11 + 2 * j)) v1)) (26 + 7 * j)) (g (11 + 2 * j)) (t_X10_placesOf g (upA a (25 + 7 * j) (putF 16 (a (25 + 7 * j)) (g (11 + 2 * j)) v1)) v1)))) (27 + 7 * j) (3 * (g (11 + 2 * j))) v2 (gx_ia27 E g (upA (upA a (25 + 7 * j) (putF 16 (a (25 + 7 * j)) (g (11 + 2 * j)) v1)) (26 + 7 * j) (putF 16 ((upA a (25 + 7 * j) (putF 16 (a (25 + 7 * j)) (g (11 + 2 * j)) v1)) (26 + 7 * j)) (g (11 + 2 * j)) (t_X10_placesOf g (upA a (25 + 7 * j) (putF 16 (a (25 + 7 * j)) (g (11 + 2 * j)) v1)) v1))) j hj) (Nat.le_of_ble_eq_true rfl) (sx_ia27 E g (upA (upA a (25 + 7 * j) (putF 16 (a (25 + 7 * j)) (g (11 + 2 * j)) v1)) (26 + 7 * j) (putF 16 ((upA a (25 + 7 * j) (putF 16 (a (25 + 7 * j)) (g (11 + 2 * j)) v1)) (26 + 7 * j)) (g (11 + 2 * j)) (t_X10_placesOf g (upA a (25 + 7 * j) (putF 16 (a (25 + 7 * j)) (g (11 + 2 * j)) v1)) v1))) j hj (putF 48 ((upA (upA a (25 + 7 * j) (putF 16 (a (25 + 7 * j)) (g (11 + 2 * j)) v1)) (26 + 7 * j) (putF 16 ((upA a (25 + 7 * j) (putF 16 (a (25 + 7 * j)) (g (11 + 2 * j)) v1)) (26 + 7 * j)) (g (11 + 2 * j)) (t_X10_placesOf g (upA a (25 + 7 * j) (putF 16 (a (25 + 7 * j)) (g (11 + 2 * j)) v1)) v1))) (27 + 7 * j)) (3 * (g (11 + 2 * j))) v2))) bw14 nw7 bw13 bw23 hd_X11_put ⟨Nat.le_of_ble_eq_true rfl, Nat.le_of_ble_eq_true rfl⟩ hP (wX_D hD) hS rfl hl.1 rfl (Nat.le_of_ble_eq_true rfl) dX2_add_42 ⟨Nat.zero_le _, Nat.zero_le _⟩) hS (fun H locs hP hS => ?_)
  refine lv_aload_n hx hb dX2_add_45 rfl (lv_at hl 0 rfl) ?_
  refine va_get (C := RX2) (T := TX2) (N := 10) hx hb hw bfX20 hown hK hP (24 + 7 * j) (gx_inst E g (upA (upA (upA a (25 + 7 * j) (putF 16 (a (25 + 7 * j)) (g (11 + 2 * j)) v1)) (26 + 7 * j) (putF 16 ((upA a (25 + 7 * j) (putF 16 (a (25 + 7 * j)) (g (11 + 2 * j)) v1)) (26 + 7 * j)) (g (11 + 2 * j)) (t_X10_placesOf g (upA a (25 + 7 * j) (putF 16 (a (25 + 7 * j)) (g (11 + 2 * j)) v1)) v1))) (27 + 7 * j) (putF 48 ((upA (upA a (25 + 7 * j) (putF 16 (a (25 + 7 * j)) (g (11 + 2 * j)) v1)) (26 + 7 * j) (putF 16 ((upA a (25 + 7 * j) (putF 16 (a (25 + 7 * j)) (g (11 + 2 * j)) v1)) (26 + 7 * j)) (g (11 + 2 * j)) (t_X10_placesOf g (upA a (25 + 7 * j) (putF 16 (a (25 + 7 * j)) (g (11 + 2 * j)) v1)) v1))) (27 + 7 * j)) (3 * (g (11 + 2 * j))) v2)) j hj) rfl 6 (by decide) (hw _ bw72) (fun _ h9 => h9) rfl dX2_add_46 ?_
  refine lv_iconst (v := 3) hx hb dX2_add_49 (by decide) ?_
  refine lv_aload_n hx hb dX2_add_50 rfl (lv_at hl 0 rfl) ?_
  refine va_get (C := RX2) (T := TX2) (N := 10) hx hb hw bfX20 hown hK hP (24 + 7 * j) (gx_inst E g (upA (upA (upA a (25 + 7 * j) (putF 16 (a (25 + 7 * j)) (g (11 + 2 * j)) v1)) (26 + 7 * j) (putF 16 ((upA a (25 + 7 * j) (putF 16 (a (25 + 7 * j)) (g (11 + 2 * j)) v1)) (26 + 7 * j)) (g (11 + 2 * j)) (t_X10_placesOf g (upA a (25 + 7 * j) (putF 16 (a (25 + 7 * j)) (g (11 + 2 * j)) v1)) v1))) (27 + 7 * j) (putF 48 ((upA (upA a (25 + 7 * j) (putF 16 (a (25 + 7 * j)) (g (11 + 2 * j)) v1)) (26 + 7 * j) (putF 16 ((upA a (25 + 7 * j) (putF 16 (a (25 + 7 * j)) (g (11 + 2 * j)) v1)) (26 + 7 * j)) (g (11 + 2 * j)) (t_X10_placesOf g (upA a (25 + 7 * j) (putF 16 (a (25 + 7 * j)) (g (11 + 2 * j)) v1)) v1))) (27 + 7 * j)) (3 * (g (11 + 2 * j))) v2)) j hj) rfl 0 (by decide) (hw _ bw92) (fun _ h9 => h9) rfl dX2_add_51 ?_
  refine lv_imul hx hb dX2_add_54 ?_
  refine lv_iconst (v := 1) hx hb dX2_add_55 (by decide) ?_
  refine lv_iadd hx hb dX2_add_56 ?_
  refine lv_iload_n hx hb dX2_add_57 rfl (lv_at hl 3 rfl) ?_
  refine xcv (xRunN (rest := []) (As := [.ref (E.2.1 (27 + 7 * j)), .int ((3 * (g (11 + 2 * j))) + 1), .int v3]) (k := 3) C0 (c_put l E (wX E g (upA (upA (upA a (25 + 7 * j) (putF 16 (a (25 + 7 * j)) (g (11 + 2 * j)) v1)) (26 + 7 * j) (putF 16 ((upA a (25 + 7 * j) (putF 16 (a (25 + 7 * j)) (g (11 + 2 * j)) v1)) (26 + 7 * j)) (g (11 + 2 * j)) (t_X10_placesOf g (upA a (25 + 7 * j) (putF 16 (a (25 + 7 * j)) (g (11 + 2 * j)) v1)) v1))) (27 + 7 * j) (putF 48 ((upA (upA a (25 + 7 * j) (putF 16 (a (25 + 7 * j)) (g (11 + 2 * j)) v1)) (26 + 7 * j) (putF 16 ((upA a (25 + 7 * j) (putF 16 (a (25 + 7 * j)) (g (11 + 2 * j)) v1)) (26 + 7 * j)) (g (11 + 2 * j)) (t_X10_placesOf g (upA a (25 + 7 * j) (putF 16 (a (25 + 7 * j)) (g (11 + 2 * j)) v1)) v1))) (27 + 7 * j)) (3 * (g (11 + 2 * j))) v2))) (27 + 7 * j) ((3 * (g (11 + 2 * j))) + 1) v3 (gx_ia27 E g (upA (upA (upA a (25 + 7 * j) (putF 16 (a (25 + 7 * j)) (g (11 + 2 * j)) v1)) (26 + 7 * j) (putF 16 ((upA a (25 + 7 * j) (putF 16 (a (25 + 7 * j)) (g (11 + 2 * j)) v1)) (26 + 7 * j)) (g (11 + 2 * j)) (t_X10_placesOf g (upA a (25 + 7 * j) (putF 16 (a (25 + 7 * j)) (g (11 + 2 * j)) v1)) v1))) (27 + 7 * j) (putF 48 ((upA (upA a (25 + 7 * j) (putF 16 (a (25 + 7 * j)) (g (11 + 2 * j)) v1)) (26 + 7 * j) (putF 16 ((upA a (25 + 7 * j) (putF 16 (a (25 + 7 * j)) (g (11 + 2 * j)) v1)) (26 + 7 * j)) (g (11 + 2 * j)) (t_X10_placesOf g (upA a (25 + 7 * j) (putF 16 (a (25 + 7 * j)) (g (11 + 2 * j)) v1)) v1))) (27 + 7 * j)) (3 * (g (11 + 2 * j))) v2)) j hj) (Nat.le_of_ble_eq_true rfl) (sx_ia27 E g (upA (upA (upA a (25 + 7 * j) (putF 16 (a (25 + 7 * j)) (g (11 + 2 * j)) v1)) (26 + 7 * j) (putF 16 ((upA a (25 + 7 * j) (putF 16 (a (25 + 7 * j)) (g (11 + 2 * j)) v1)) (26 + 7 * j)) (g (11 + 2 * j)) (t_X10_placesOf g (upA a (25 + 7 * j) (putF 16 (a (25 + 7 * j)) (g (11 + 2 * j)) v1)) v1))) (27 + 7 * j) (putF 48 ((upA (upA a (25 + 7 * j) (putF 16 (a (25 + 7 * j)) (g (11 + 2 * j)) v1)) (26 + 7 * j) (putF 16 ((upA a (25 + 7 * j) (putF 16 (a (25 + 7 * j)) (g (11 + 2 * j)) v1)) (26 + 7 * j)) (g (11 + 2 * j)) (t_X10_placesOf g (upA a (25 + 7 * j) (putF 16 (a (25 + 7 * j)) (g (11 + 2 * j)) v1)) v1))) (27 + 7 * j)) (3 * (g (11 + 2 * j))) v2)) j hj (putF 48 ((upA (upA (upA a (25 + 7 * j) (putF 16 (a (25 + 7 * j)) (g (11 + 2 * j)) v1)) (26 + 7 * j) (putF 16 ((upA a (25 + 7 * j) (putF 16 (a (25 + 7 * j)) (g (11 + 2 * j)) v1)) (26 + 7 * j)) (g (11 + 2 * j)) (t_X10_placesOf g (upA a (25 + 7 * j) (putF 16 (a (25 + 7 * j)) (g (11 + 2 * j)) v1)) v1))) (27 + 7 * j) (putF 48 ((upA (upA a (25 + 7 * j) (putF 16 (a (25 + 7 * j)) (g (11 + 2 * j)) v1)) (26 + 7 * j) (putF 16 ((upA a (25 + 7 * j) (putF 16 (a (25 + 7 * j)) (g (11 + 2 * j)) v1)) (26 + 7 * j)) (g (11 + 2 * j)) (t_X10_placesOf g (upA a (25 + 7 * j) (putF 16 (a (25 + 7 * j)) (g (11 + 2 * j)) v1)) v1))) (27 + 7 * j)) (3 * (g (11 + 2 * j))) v2)) (27 + 7 * j)) ((3 * (g (11 + 2 * j))) + 1) v3))) bw14 nw7 bw13 bw23 hd_X11_put ⟨Nat.le_of_ble_eq_true rfl, Nat.le_of_ble_eq_true rfl⟩ hP (wX_D hD) hS rfl hl.1 rfl (Nat.le_of_ble_eq_true rfl) dX2_add_58 ⟨Nat.zero_le _, Nat.zero_le _⟩) hS (fun H locs hP hS => ?_)
  refine lv_aload_n hx hb dX2_add_61 rfl (lv_at hl 0 rfl) ?_
  refine va_get (C := RX2) (T := TX2) (N := 10) hx hb hw bfX20 hown hK hP (24 + 7 * j) (gx_inst E g (upA (upA (upA (upA a (25 + 7 * j) (putF 16 (a (25 + 7 * j)) (g (11 + 2 * j)) v1)) (26 + 7 * j) (putF 16 ((upA a (25 + 7 * j) (putF 16 (a (25 + 7 * j)) (g (11 + 2 * j)) v1)) (26 + 7 * j)) (g (11 + 2 * j)) (t_X10_placesOf g (upA a (25 + 7 * j) (putF 16 (a (25 + 7 * j)) (g (11 + 2 * j)) v1)) v1))) (27 + 7 * j) (putF 48 ((upA (upA a (25 + 7 * j) (putF 16 (a (25 + 7 * j)) (g (11 + 2 * j)) v1)) (26 + 7 * j) (putF 16 ((upA a (25 + 7 * j) (putF 16 (a (25 + 7 * j)) (g (11 + 2 * j)) v1)) (26 + 7 * j)) (g (11 + 2 * j)) (t_X10_placesOf g (upA a (25 + 7 * j) (putF 16 (a (25 + 7 * j)) (g (11 + 2 * j)) v1)) v1))) (27 + 7 * j)) (3 * (g (11 + 2 * j))) v2)) (27 + 7 * j) (putF 48 ((upA (upA (upA a (25 + 7 * j) (putF 16 (a (25 + 7 * j)) (g (11 + 2 * j)) v1)) (26 + 7 * j) (putF 16 ((upA a (25 + 7 * j) (putF 16 (a (25 + 7 * j)) (g (11 + 2 * j)) v1)) (26 + 7 * j)) (g (11 + 2 * j)) (t_X10_placesOf g (upA a (25 + 7 * j) (putF 16 (a (25 + 7 * j)) (g (11 + 2 * j)) v1)) v1))) (27 + 7 * j) (putF 48 ((upA (upA a (25 + 7 * j) (putF 16 (a (25 + 7 * j)) (g (11 + 2 * j)) v1)) (26 + 7 * j) (putF 16 ((upA a (25 + 7 * j) (putF 16 (a (25 + 7 * j)) (g (11 + 2 * j)) v1)) (26 + 7 * j)) (g (11 + 2 * j)) (t_X10_placesOf g (upA a (25 + 7 * j) (putF 16 (a (25 + 7 * j)) (g (11 + 2 * j)) v1)) v1))) (27 + 7 * j)) (3 * (g (11 + 2 * j))) v2)) (27 + 7 * j)) ((3 * (g (11 + 2 * j))) + 1) v3)) j hj) rfl 6 (by decide) (hw _ bw72) (fun _ h9 => h9) rfl dX2_add_62 ?_
  refine lv_iconst (v := 3) hx hb dX2_add_65 (by decide) ?_
  refine lv_aload_n hx hb dX2_add_66 rfl (lv_at hl 0 rfl) ?_
  refine va_get (C := RX2) (T := TX2) (N := 10) hx hb hw bfX20 hown hK hP (24 + 7 * j) (gx_inst E g (upA (upA (upA (upA a (25 + 7 * j) (putF 16 (a (25 + 7 * j)) (g (11 + 2 * j)) v1)) (26 + 7 * j) (putF 16 ((upA a (25 + 7 * j) (putF 16 (a (25 + 7 * j)) (g (11 + 2 * j)) v1)) (26 + 7 * j)) (g (11 + 2 * j)) (t_X10_placesOf g (upA a (25 + 7 * j) (putF 16 (a (25 + 7 * j)) (g (11 + 2 * j)) v1)) v1))) (27 + 7 * j) (putF 48 ((upA (upA a (25 + 7 * j) (putF 16 (a (25 + 7 * j)) (g (11 + 2 * j)) v1)) (26 + 7 * j) (putF 16 ((upA a (25 + 7 * j) (putF 16 (a (25 + 7 * j)) (g (11 + 2 * j)) v1)) (26 + 7 * j)) (g (11 + 2 * j)) (t_X10_placesOf g (upA a (25 + 7 * j) (putF 16 (a (25 + 7 * j)) (g (11 + 2 * j)) v1)) v1))) (27 + 7 * j)) (3 * (g (11 + 2 * j))) v2)) (27 + 7 * j) (putF 48 ((upA (upA (upA a (25 + 7 * j) (putF 16 (a (25 + 7 * j)) (g (11 + 2 * j)) v1)) (26 + 7 * j) (putF 16 ((upA a (25 + 7 * j) (putF 16 (a (25 + 7 * j)) (g (11 + 2 * j)) v1)) (26 + 7 * j)) (g (11 + 2 * j)) (t_X10_placesOf g (upA a (25 + 7 * j) (putF 16 (a (25 + 7 * j)) (g (11 + 2 * j)) v1)) v1))) (27 + 7 * j) (putF 48 ((upA (upA a (25 + 7 * j) (putF 16 (a (25 + 7 * j)) (g (11 + 2 * j)) v1)) (26 + 7 * j) (putF 16 ((upA a (25 + 7 * j) (putF 16 (a (25 + 7 * j)) (g (11 + 2 * j)) v1)) (26 + 7 * j)) (g (11 + 2 * j)) (t_X10_placesOf g (upA a (25 + 7 * j) (putF 16 (a (25 + 7 * j)) (g (11 + 2 * j)) v1)) v1))) (27 + 7 * j)) (3 * (g (11 + 2 * j))) v2)) (27 + 7 * j)) ((3 * (g (11 + 2 * j))) + 1) v3)) j hj) rfl 0 (by decide) (hw _ bw92) (fun _ h9 => h9) rfl dX2_add_67 ?_
  refine lv_imul hx hb dX2_add_70 ?_
  refine lv_iconst (v := 2) hx hb dX2_add_71 (by decide) ?_
  refine lv_iadd hx hb dX2_add_72 ?_
  refine lv_iload hx hb dX2_add_73 (lv_at hl 4 rfl) ?_
  refine xcv (xRunN (rest := []) (As := [.ref (E.2.1 (27 + 7 * j)), .int ((3 * (g (11 + 2 * j))) + 2), .int v4]) (k := 3) C0 (c_put l E (wX E g (upA (upA (upA (upA a (25 + 7 * j) (putF 16 (a (25 + 7 * j)) (g (11 + 2 * j)) v1)) (26 + 7 * j) (putF 16 ((upA a (25 + 7 * j) (putF 16 (a (25 + 7 * j)) (g (11 + 2 * j)) v1)) (26 + 7 * j)) (g (11 + 2 * j)) (t_X10_placesOf g (upA a (25 + 7 * j) (putF 16 (a (25 + 7 * j)) (g (11 + 2 * j)) v1)) v1))) (27 + 7 * j) (putF 48 ((upA (upA a (25 + 7 * j) (putF 16 (a (25 + 7 * j)) (g (11 + 2 * j)) v1)) (26 + 7 * j) (putF 16 ((upA a (25 + 7 * j) (putF 16 (a (25 + 7 * j)) (g (11 + 2 * j)) v1)) (26 + 7 * j)) (g (11 + 2 * j)) (t_X10_placesOf g (upA a (25 + 7 * j) (putF 16 (a (25 + 7 * j)) (g (11 + 2 * j)) v1)) v1))) (27 + 7 * j)) (3 * (g (11 + 2 * j))) v2)) (27 + 7 * j) (putF 48 ((upA (upA (upA a (25 + 7 * j) (putF 16 (a (25 + 7 * j)) (g (11 + 2 * j)) v1)) (26 + 7 * j) (putF 16 ((upA a (25 + 7 * j) (putF 16 (a (25 + 7 * j)) (g (11 + 2 * j)) v1)) (26 + 7 * j)) (g (11 + 2 * j)) (t_X10_placesOf g (upA a (25 + 7 * j) (putF 16 (a (25 + 7 * j)) (g (11 + 2 * j)) v1)) v1))) (27 + 7 * j) (putF 48 ((upA (upA a (25 + 7 * j) (putF 16 (a (25 + 7 * j)) (g (11 + 2 * j)) v1)) (26 + 7 * j) (putF 16 ((upA a (25 + 7 * j) (putF 16 (a (25 + 7 * j)) (g (11 + 2 * j)) v1)) (26 + 7 * j)) (g (11 + 2 * j)) (t_X10_placesOf g (upA a (25 + 7 * j) (putF 16 (a (25 + 7 * j)) (g (11 + 2 * j)) v1)) v1))) (27 + 7 * j)) (3 * (g (11 + 2 * j))) v2)) (27 + 7 * j)) ((3 * (g (11 + 2 * j))) + 1) v3))) (27 + 7 * j) ((3 * (g (11 + 2 * j))) + 2) v4 (gx_ia27 E g (upA (upA (upA (upA a (25 + 7 * j) (putF 16 (a (25 + 7 * j)) (g (11 + 2 * j)) v1)) (26 + 7 * j) (putF 16 ((upA a (25 + 7 * j) (putF 16 (a (25 + 7 * j)) (g (11 + 2 * j)) v1)) (26 + 7 * j)) (g (11 + 2 * j)) (t_X10_placesOf g (upA a (25 + 7 * j) (putF 16 (a (25 + 7 * j)) (g (11 + 2 * j)) v1)) v1))) (27 + 7 * j) (putF 48 ((upA (upA a (25 + 7 * j) (putF 16 (a (25 + 7 * j)) (g (11 + 2 * j)) v1)) (26 + 7 * j) (putF 16 ((upA a (25 + 7 * j) (putF 16 (a (25 + 7 * j)) (g (11 + 2 * j)) v1)) (26 + 7 * j)) (g (11 + 2 * j)) (t_X10_placesOf g (upA a (25 + 7 * j) (putF 16 (a (25 + 7 * j)) (g (11 + 2 * j)) v1)) v1))) (27 + 7 * j)) (3 * (g (11 + 2 * j))) v2)) (27 + 7 * j) (putF 48 ((upA (upA (upA a (25 + 7 * j) (putF 16 (a (25 + 7 * j)) (g (11 + 2 * j)) v1)) (26 + 7 * j) (putF 16 ((upA a (25 + 7 * j) (putF 16 (a (25 + 7 * j)) (g (11 + 2 * j)) v1)) (26 + 7 * j)) (g (11 + 2 * j)) (t_X10_placesOf g (upA a (25 + 7 * j) (putF 16 (a (25 + 7 * j)) (g (11 + 2 * j)) v1)) v1))) (27 + 7 * j) (putF 48 ((upA (upA a (25 + 7 * j) (putF 16 (a (25 + 7 * j)) (g (11 + 2 * j)) v1)) (26 + 7 * j) (putF 16 ((upA a (25 + 7 * j) (putF 16 (a (25 + 7 * j)) (g (11 + 2 * j)) v1)) (26 + 7 * j)) (g (11 + 2 * j)) (t_X10_placesOf g (upA a (25 + 7 * j) (putF 16 (a (25 + 7 * j)) (g (11 + 2 * j)) v1)) v1))) (27 + 7 * j)) (3 * (g (11 + 2 * j))) v2)) (27 + 7 * j)) ((3 * (g (11 + 2 * j))) + 1) v3)) j hj) (Nat.le_of_ble_eq_true rfl) (sx_ia27 E g (upA (upA (upA (upA a (25 + 7 * j) (putF 16 (a (25 + 7 * j)) (g (11 + 2 * j)) v1)) (26 + 7 * j) (putF 16 ((upA a (25 + 7 * j) (putF 16 (a (25 + 7 * j)) (g (11 + 2 * j)) v1)) (26 + 7 * j)) (g (11 + 2 * j)) (t_X10_placesOf g (upA a (25 + 7 * j) (putF 16 (a (25 + 7 * j)) (g (11 + 2 * j)) v1)) v1))) (27 + 7 * j) (putF 48 ((upA (upA a (25 + 7 * j) (putF 16 (a (25 + 7 * j)) (g (11 + 2 * j)) v1)) (26 + 7 * j) (putF 16 ((upA a (25 + 7 * j) (putF 16 (a (25 + 7 * j)) (g (11 + 2 * j)) v1)) (26 + 7 * j)) (g (11 + 2 * j)) (t_X10_placesOf g (upA a (25 + 7 * j) (putF 16 (a (25 + 7 * j)) (g (11 + 2 * j)) v1)) v1))) (27 + 7 * j)) (3 * (g (11 + 2 * j))) v2)) (27 + 7 * j) (putF 48 ((upA (upA (upA a (25 + 7 * j) (putF 16 (a (25 + 7 * j)) (g (11 + 2 * j)) v1)) (26 + 7 * j) (putF 16 ((upA a (25 + 7 * j) (putF 16 (a (25 + 7 * j)) (g (11 + 2 * j)) v1)) (26 + 7 * j)) (g (11 + 2 * j)) (t_X10_placesOf g (upA a (25 + 7 * j) (putF 16 (a (25 + 7 * j)) (g (11 + 2 * j)) v1)) v1))) (27 + 7 * j) (putF 48 ((upA (upA a (25 + 7 * j) (putF 16 (a (25 + 7 * j)) (g (11 + 2 * j)) v1)) (26 + 7 * j) (putF 16 ((upA a (25 + 7 * j) (putF 16 (a (25 + 7 * j)) (g (11 + 2 * j)) v1)) (26 + 7 * j)) (g (11 + 2 * j)) (t_X10_placesOf g (upA a (25 + 7 * j) (putF 16 (a (25 + 7 * j)) (g (11 + 2 * j)) v1)) v1))) (27 + 7 * j)) (3 * (g (11 + 2 * j))) v2)) (27 + 7 * j)) ((3 * (g (11 + 2 * j))) + 1) v3)) j hj (putF 48 ((upA (upA (upA (upA a (25 + 7 * j) (putF 16 (a (25 + 7 * j)) (g (11 + 2 * j)) v1)) (26 + 7 * j) (putF 16 ((upA a (25 + 7 * j) (putF 16 (a (25 + 7 * j)) (g (11 + 2 * j)) v1)) (26 + 7 * j)) (g (11 + 2 * j)) (t_X10_placesOf g (upA a (25 + 7 * j) (putF 16 (a (25 + 7 * j)) (g (11 + 2 * j)) v1)) v1))) (27 + 7 * j) (putF 48 ((upA (upA a (25 + 7 * j) (putF 16 (a (25 + 7 * j)) (g (11 + 2 * j)) v1)) (26 + 7 * j) (putF 16 ((upA a (25 + 7 * j) (putF 16 (a (25 + 7 * j)) (g (11 + 2 * j)) v1)) (26 + 7 * j)) (g (11 + 2 * j)) (t_X10_placesOf g (upA a (25 + 7 * j) (putF 16 (a (25 + 7 * j)) (g (11 + 2 * j)) v1)) v1))) (27 + 7 * j)) (3 * (g (11 + 2 * j))) v2)) (27 + 7 * j) (putF 48 ((upA (upA (upA a (25 + 7 * j) (putF 16 (a (25 + 7 * j)) (g (11 + 2 * j)) v1)) (26 + 7 * j) (putF 16 ((upA a (25 + 7 * j) (putF 16 (a (25 + 7 * j)) (g (11 + 2 * j)) v1)) (26 + 7 * j)) (g (11 + 2 * j)) (t_X10_placesOf g (upA a (25 + 7 * j) (putF 16 (a (25 + 7 * j)) (g (11 + 2 * j)) v1)) v1))) (27 + 7 * j) (putF 48 ((upA (upA a (25 + 7 * j) (putF 16 (a (25 + 7 * j)) (g (11 + 2 * j)) v1)) (26 + 7 * j) (putF 16 ((upA a (25 + 7 * j) (putF 16 (a (25 + 7 * j)) (g (11 + 2 * j)) v1)) (26 + 7 * j)) (g (11 + 2 * j)) (t_X10_placesOf g (upA a (25 + 7 * j) (putF 16 (a (25 + 7 * j)) (g (11 + 2 * j)) v1)) v1))) (27 + 7 * j)) (3 * (g (11 + 2 * j))) v2)) (27 + 7 * j)) ((3 * (g (11 + 2 * j))) + 1) v3)) (27 + 7 * j)) ((3 * (g (11 + 2 * j))) + 2) v4))) bw14 nw7 bw13 bw23 hd_X11_put ⟨Nat.le_of_ble_eq_true rfl, Nat.le_of_ble_eq_true rfl⟩ hP (wX_D hD) hS rfl hl.1 rfl (Nat.le_of_ble_eq_true rfl) dX2_add_75 ⟨Nat.zero_le _, Nat.zero_le _⟩) hS (fun H locs hP hS => ?_)
  refine lv_aload_n hx hb dX2_add_78 rfl (lv_at hl 0 rfl) ?_
  refine va_get (C := RX2) (T := TX2) (N := 10) hx hb hw bfX20 hown hK hP (24 + 7 * j) (gx_inst E g (upA (upA (upA (upA (upA a (25 + 7 * j) (putF 16 (a (25 + 7 * j)) (g (11 + 2 * j)) v1)) (26 + 7 * j) (putF 16 ((upA a (25 + 7 * j) (putF 16 (a (25 + 7 * j)) (g (11 + 2 * j)) v1)) (26 + 7 * j)) (g (11 + 2 * j)) (t_X10_placesOf g (upA a (25 + 7 * j) (putF 16 (a (25 + 7 * j)) (g (11 + 2 * j)) v1)) v1))) (27 + 7 * j) (putF 48 ((upA (upA a (25 + 7 * j) (putF 16 (a (25 + 7 * j)) (g (11 + 2 * j)) v1)) (26 + 7 * j) (putF 16 ((upA a (25 + 7 * j) (putF 16 (a (25 + 7 * j)) (g (11 + 2 * j)) v1)) (26 + 7 * j)) (g (11 + 2 * j)) (t_X10_placesOf g (upA a (25 + 7 * j) (putF 16 (a (25 + 7 * j)) (g (11 + 2 * j)) v1)) v1))) (27 + 7 * j)) (3 * (g (11 + 2 * j))) v2)) (27 + 7 * j) (putF 48 ((upA (upA (upA a (25 + 7 * j) (putF 16 (a (25 + 7 * j)) (g (11 + 2 * j)) v1)) (26 + 7 * j) (putF 16 ((upA a (25 + 7 * j) (putF 16 (a (25 + 7 * j)) (g (11 + 2 * j)) v1)) (26 + 7 * j)) (g (11 + 2 * j)) (t_X10_placesOf g (upA a (25 + 7 * j) (putF 16 (a (25 + 7 * j)) (g (11 + 2 * j)) v1)) v1))) (27 + 7 * j) (putF 48 ((upA (upA a (25 + 7 * j) (putF 16 (a (25 + 7 * j)) (g (11 + 2 * j)) v1)) (26 + 7 * j) (putF 16 ((upA a (25 + 7 * j) (putF 16 (a (25 + 7 * j)) (g (11 + 2 * j)) v1)) (26 + 7 * j)) (g (11 + 2 * j)) (t_X10_placesOf g (upA a (25 + 7 * j) (putF 16 (a (25 + 7 * j)) (g (11 + 2 * j)) v1)) v1))) (27 + 7 * j)) (3 * (g (11 + 2 * j))) v2)) (27 + 7 * j)) ((3 * (g (11 + 2 * j))) + 1) v3)) (27 + 7 * j) (putF 48 ((upA (upA (upA (upA a (25 + 7 * j) (putF 16 (a (25 + 7 * j)) (g (11 + 2 * j)) v1)) (26 + 7 * j) (putF 16 ((upA a (25 + 7 * j) (putF 16 (a (25 + 7 * j)) (g (11 + 2 * j)) v1)) (26 + 7 * j)) (g (11 + 2 * j)) (t_X10_placesOf g (upA a (25 + 7 * j) (putF 16 (a (25 + 7 * j)) (g (11 + 2 * j)) v1)) v1))) (27 + 7 * j) (putF 48 ((upA (upA a (25 + 7 * j) (putF 16 (a (25 + 7 * j)) (g (11 + 2 * j)) v1)) (26 + 7 * j) (putF 16 ((upA a (25 + 7 * j) (putF 16 (a (25 + 7 * j)) (g (11 + 2 * j)) v1)) (26 + 7 * j)) (g (11 + 2 * j)) (t_X10_placesOf g (upA a (25 + 7 * j) (putF 16 (a (25 + 7 * j)) (g (11 + 2 * j)) v1)) v1))) (27 + 7 * j)) (3 * (g (11 + 2 * j))) v2)) (27 + 7 * j) (putF 48 ((upA (upA (upA a (25 + 7 * j) (putF 16 (a (25 + 7 * j)) (g (11 + 2 * j)) v1)) (26 + 7 * j) (putF 16 ((upA a (25 + 7 * j) (putF 16 (a (25 + 7 * j)) (g (11 + 2 * j)) v1)) (26 + 7 * j)) (g (11 + 2 * j)) (t_X10_placesOf g (upA a (25 + 7 * j) (putF 16 (a (25 + 7 * j)) (g (11 + 2 * j)) v1)) v1))) (27 + 7 * j) (putF 48 ((upA (upA a (25 + 7 * j) (putF 16 (a (25 + 7 * j)) (g (11 + 2 * j)) v1)) (26 + 7 * j) (putF 16 ((upA a (25 + 7 * j) (putF 16 (a (25 + 7 * j)) (g (11 + 2 * j)) v1)) (26 + 7 * j)) (g (11 + 2 * j)) (t_X10_placesOf g (upA a (25 + 7 * j) (putF 16 (a (25 + 7 * j)) (g (11 + 2 * j)) v1)) v1))) (27 + 7 * j)) (3 * (g (11 + 2 * j))) v2)) (27 + 7 * j)) ((3 * (g (11 + 2 * j))) + 1) v3)) (27 + 7 * j)) ((3 * (g (11 + 2 * j))) + 2) v4)) j hj) rfl 7 (by decide) (hw _ bw73) (fun _ h9 => h9) rfl dX2_add_79 ?_
  refine lv_aload_n hx hb dX2_add_82 rfl (lv_at hl 0 rfl) ?_
  refine va_get (C := RX2) (T := TX2) (N := 10) hx hb hw bfX20 hown hK hP (24 + 7 * j) (gx_inst E g (upA (upA (upA (upA (upA a (25 + 7 * j) (putF 16 (a (25 + 7 * j)) (g (11 + 2 * j)) v1)) (26 + 7 * j) (putF 16 ((upA a (25 + 7 * j) (putF 16 (a (25 + 7 * j)) (g (11 + 2 * j)) v1)) (26 + 7 * j)) (g (11 + 2 * j)) (t_X10_placesOf g (upA a (25 + 7 * j) (putF 16 (a (25 + 7 * j)) (g (11 + 2 * j)) v1)) v1))) (27 + 7 * j) (putF 48 ((upA (upA a (25 + 7 * j) (putF 16 (a (25 + 7 * j)) (g (11 + 2 * j)) v1)) (26 + 7 * j) (putF 16 ((upA a (25 + 7 * j) (putF 16 (a (25 + 7 * j)) (g (11 + 2 * j)) v1)) (26 + 7 * j)) (g (11 + 2 * j)) (t_X10_placesOf g (upA a (25 + 7 * j) (putF 16 (a (25 + 7 * j)) (g (11 + 2 * j)) v1)) v1))) (27 + 7 * j)) (3 * (g (11 + 2 * j))) v2)) (27 + 7 * j) (putF 48 ((upA (upA (upA a (25 + 7 * j) (putF 16 (a (25 + 7 * j)) (g (11 + 2 * j)) v1)) (26 + 7 * j) (putF 16 ((upA a (25 + 7 * j) (putF 16 (a (25 + 7 * j)) (g (11 + 2 * j)) v1)) (26 + 7 * j)) (g (11 + 2 * j)) (t_X10_placesOf g (upA a (25 + 7 * j) (putF 16 (a (25 + 7 * j)) (g (11 + 2 * j)) v1)) v1))) (27 + 7 * j) (putF 48 ((upA (upA a (25 + 7 * j) (putF 16 (a (25 + 7 * j)) (g (11 + 2 * j)) v1)) (26 + 7 * j) (putF 16 ((upA a (25 + 7 * j) (putF 16 (a (25 + 7 * j)) (g (11 + 2 * j)) v1)) (26 + 7 * j)) (g (11 + 2 * j)) (t_X10_placesOf g (upA a (25 + 7 * j) (putF 16 (a (25 + 7 * j)) (g (11 + 2 * j)) v1)) v1))) (27 + 7 * j)) (3 * (g (11 + 2 * j))) v2)) (27 + 7 * j)) ((3 * (g (11 + 2 * j))) + 1) v3)) (27 + 7 * j) (putF 48 ((upA (upA (upA (upA a (25 + 7 * j) (putF 16 (a (25 + 7 * j)) (g (11 + 2 * j)) v1)) (26 + 7 * j) (putF 16 ((upA a (25 + 7 * j) (putF 16 (a (25 + 7 * j)) (g (11 + 2 * j)) v1)) (26 + 7 * j)) (g (11 + 2 * j)) (t_X10_placesOf g (upA a (25 + 7 * j) (putF 16 (a (25 + 7 * j)) (g (11 + 2 * j)) v1)) v1))) (27 + 7 * j) (putF 48 ((upA (upA a (25 + 7 * j) (putF 16 (a (25 + 7 * j)) (g (11 + 2 * j)) v1)) (26 + 7 * j) (putF 16 ((upA a (25 + 7 * j) (putF 16 (a (25 + 7 * j)) (g (11 + 2 * j)) v1)) (26 + 7 * j)) (g (11 + 2 * j)) (t_X10_placesOf g (upA a (25 + 7 * j) (putF 16 (a (25 + 7 * j)) (g (11 + 2 * j)) v1)) v1))) (27 + 7 * j)) (3 * (g (11 + 2 * j))) v2)) (27 + 7 * j) (putF 48 ((upA (upA (upA a (25 + 7 * j) (putF 16 (a (25 + 7 * j)) (g (11 + 2 * j)) v1)) (26 + 7 * j) (putF 16 ((upA a (25 + 7 * j) (putF 16 (a (25 + 7 * j)) (g (11 + 2 * j)) v1)) (26 + 7 * j)) (g (11 + 2 * j)) (t_X10_placesOf g (upA a (25 + 7 * j) (putF 16 (a (25 + 7 * j)) (g (11 + 2 * j)) v1)) v1))) (27 + 7 * j) (putF 48 ((upA (upA a (25 + 7 * j) (putF 16 (a (25 + 7 * j)) (g (11 + 2 * j)) v1)) (26 + 7 * j) (putF 16 ((upA a (25 + 7 * j) (putF 16 (a (25 + 7 * j)) (g (11 + 2 * j)) v1)) (26 + 7 * j)) (g (11 + 2 * j)) (t_X10_placesOf g (upA a (25 + 7 * j) (putF 16 (a (25 + 7 * j)) (g (11 + 2 * j)) v1)) v1))) (27 + 7 * j)) (3 * (g (11 + 2 * j))) v2)) (27 + 7 * j)) ((3 * (g (11 + 2 * j))) + 1) v3)) (27 + 7 * j)) ((3 * (g (11 + 2 * j))) + 2) v4)) j hj) rfl 0 (by decide) (hw _ bw92) (fun _ h9 => h9) rfl dX2_add_83 ?_
  refine lv_aload_n hx hb dX2_add_86 rfl (lv_at hl 0 rfl) ?_
  refine lv_aload_n hx hb dX2_add_87 rfl (lv_at hl 0 rfl) ?_
  refine va_get (C := RX2) (T := TX2) (N := 10) hx hb hw bfX20 hown hK hP (24 + 7 * j) (gx_inst E g (upA (upA (upA (upA (upA a (25 + 7 * j) (putF 16 (a (25 + 7 * j)) (g (11 + 2 * j)) v1)) (26 + 7 * j) (putF 16 ((upA a (25 + 7 * j) (putF 16 (a (25 + 7 * j)) (g (11 + 2 * j)) v1)) (26 + 7 * j)) (g (11 + 2 * j)) (t_X10_placesOf g (upA a (25 + 7 * j) (putF 16 (a (25 + 7 * j)) (g (11 + 2 * j)) v1)) v1))) (27 + 7 * j) (putF 48 ((upA (upA a (25 + 7 * j) (putF 16 (a (25 + 7 * j)) (g (11 + 2 * j)) v1)) (26 + 7 * j) (putF 16 ((upA a (25 + 7 * j) (putF 16 (a (25 + 7 * j)) (g (11 + 2 * j)) v1)) (26 + 7 * j)) (g (11 + 2 * j)) (t_X10_placesOf g (upA a (25 + 7 * j) (putF 16 (a (25 + 7 * j)) (g (11 + 2 * j)) v1)) v1))) (27 + 7 * j)) (3 * (g (11 + 2 * j))) v2)) (27 + 7 * j) (putF 48 ((upA (upA (upA a (25 + 7 * j) (putF 16 (a (25 + 7 * j)) (g (11 + 2 * j)) v1)) (26 + 7 * j) (putF 16 ((upA a (25 + 7 * j) (putF 16 (a (25 + 7 * j)) (g (11 + 2 * j)) v1)) (26 + 7 * j)) (g (11 + 2 * j)) (t_X10_placesOf g (upA a (25 + 7 * j) (putF 16 (a (25 + 7 * j)) (g (11 + 2 * j)) v1)) v1))) (27 + 7 * j) (putF 48 ((upA (upA a (25 + 7 * j) (putF 16 (a (25 + 7 * j)) (g (11 + 2 * j)) v1)) (26 + 7 * j) (putF 16 ((upA a (25 + 7 * j) (putF 16 (a (25 + 7 * j)) (g (11 + 2 * j)) v1)) (26 + 7 * j)) (g (11 + 2 * j)) (t_X10_placesOf g (upA a (25 + 7 * j) (putF 16 (a (25 + 7 * j)) (g (11 + 2 * j)) v1)) v1))) (27 + 7 * j)) (3 * (g (11 + 2 * j))) v2)) (27 + 7 * j)) ((3 * (g (11 + 2 * j))) + 1) v3)) (27 + 7 * j) (putF 48 ((upA (upA (upA (upA a (25 + 7 * j) (putF 16 (a (25 + 7 * j)) (g (11 + 2 * j)) v1)) (26 + 7 * j) (putF 16 ((upA a (25 + 7 * j) (putF 16 (a (25 + 7 * j)) (g (11 + 2 * j)) v1)) (26 + 7 * j)) (g (11 + 2 * j)) (t_X10_placesOf g (upA a (25 + 7 * j) (putF 16 (a (25 + 7 * j)) (g (11 + 2 * j)) v1)) v1))) (27 + 7 * j) (putF 48 ((upA (upA a (25 + 7 * j) (putF 16 (a (25 + 7 * j)) (g (11 + 2 * j)) v1)) (26 + 7 * j) (putF 16 ((upA a (25 + 7 * j) (putF 16 (a (25 + 7 * j)) (g (11 + 2 * j)) v1)) (26 + 7 * j)) (g (11 + 2 * j)) (t_X10_placesOf g (upA a (25 + 7 * j) (putF 16 (a (25 + 7 * j)) (g (11 + 2 * j)) v1)) v1))) (27 + 7 * j)) (3 * (g (11 + 2 * j))) v2)) (27 + 7 * j) (putF 48 ((upA (upA (upA a (25 + 7 * j) (putF 16 (a (25 + 7 * j)) (g (11 + 2 * j)) v1)) (26 + 7 * j) (putF 16 ((upA a (25 + 7 * j) (putF 16 (a (25 + 7 * j)) (g (11 + 2 * j)) v1)) (26 + 7 * j)) (g (11 + 2 * j)) (t_X10_placesOf g (upA a (25 + 7 * j) (putF 16 (a (25 + 7 * j)) (g (11 + 2 * j)) v1)) v1))) (27 + 7 * j) (putF 48 ((upA (upA a (25 + 7 * j) (putF 16 (a (25 + 7 * j)) (g (11 + 2 * j)) v1)) (26 + 7 * j) (putF 16 ((upA a (25 + 7 * j) (putF 16 (a (25 + 7 * j)) (g (11 + 2 * j)) v1)) (26 + 7 * j)) (g (11 + 2 * j)) (t_X10_placesOf g (upA a (25 + 7 * j) (putF 16 (a (25 + 7 * j)) (g (11 + 2 * j)) v1)) v1))) (27 + 7 * j)) (3 * (g (11 + 2 * j))) v2)) (27 + 7 * j)) ((3 * (g (11 + 2 * j))) + 1) v3)) (27 + 7 * j)) ((3 * (g (11 + 2 * j))) + 2) v4)) j hj) rfl 0 (by decide) (hw _ bw92) (fun _ h9 => h9) rfl dX2_add_88 ?_
  obtain ⟨u1, e2, hf⟩ := bd_some hf
  refine xci (xRunV (rest := [.int (g (11 + 2 * j)), .ref (E.2.1 (28 + 7 * j))]) (As := [.int (g (11 + 2 * j))]) (C := RX2) (k := 1) C0 (c_X2_lowestVariable l E j hj g (upA (upA (upA (upA (upA a (25 + 7 * j) (putF 16 (a (25 + 7 * j)) (g (11 + 2 * j)) v1)) (26 + 7 * j) (putF 16 ((upA a (25 + 7 * j) (putF 16 (a (25 + 7 * j)) (g (11 + 2 * j)) v1)) (26 + 7 * j)) (g (11 + 2 * j)) (t_X10_placesOf g (upA a (25 + 7 * j) (putF 16 (a (25 + 7 * j)) (g (11 + 2 * j)) v1)) v1))) (27 + 7 * j) (putF 48 ((upA (upA a (25 + 7 * j) (putF 16 (a (25 + 7 * j)) (g (11 + 2 * j)) v1)) (26 + 7 * j) (putF 16 ((upA a (25 + 7 * j) (putF 16 (a (25 + 7 * j)) (g (11 + 2 * j)) v1)) (26 + 7 * j)) (g (11 + 2 * j)) (t_X10_placesOf g (upA a (25 + 7 * j) (putF 16 (a (25 + 7 * j)) (g (11 + 2 * j)) v1)) v1))) (27 + 7 * j)) (3 * (g (11 + 2 * j))) v2)) (27 + 7 * j) (putF 48 ((upA (upA (upA a (25 + 7 * j) (putF 16 (a (25 + 7 * j)) (g (11 + 2 * j)) v1)) (26 + 7 * j) (putF 16 ((upA a (25 + 7 * j) (putF 16 (a (25 + 7 * j)) (g (11 + 2 * j)) v1)) (26 + 7 * j)) (g (11 + 2 * j)) (t_X10_placesOf g (upA a (25 + 7 * j) (putF 16 (a (25 + 7 * j)) (g (11 + 2 * j)) v1)) v1))) (27 + 7 * j) (putF 48 ((upA (upA a (25 + 7 * j) (putF 16 (a (25 + 7 * j)) (g (11 + 2 * j)) v1)) (26 + 7 * j) (putF 16 ((upA a (25 + 7 * j) (putF 16 (a (25 + 7 * j)) (g (11 + 2 * j)) v1)) (26 + 7 * j)) (g (11 + 2 * j)) (t_X10_placesOf g (upA a (25 + 7 * j) (putF 16 (a (25 + 7 * j)) (g (11 + 2 * j)) v1)) v1))) (27 + 7 * j)) (3 * (g (11 + 2 * j))) v2)) (27 + 7 * j)) ((3 * (g (11 + 2 * j))) + 1) v3)) (27 + 7 * j) (putF 48 ((upA (upA (upA (upA a (25 + 7 * j) (putF 16 (a (25 + 7 * j)) (g (11 + 2 * j)) v1)) (26 + 7 * j) (putF 16 ((upA a (25 + 7 * j) (putF 16 (a (25 + 7 * j)) (g (11 + 2 * j)) v1)) (26 + 7 * j)) (g (11 + 2 * j)) (t_X10_placesOf g (upA a (25 + 7 * j) (putF 16 (a (25 + 7 * j)) (g (11 + 2 * j)) v1)) v1))) (27 + 7 * j) (putF 48 ((upA (upA a (25 + 7 * j) (putF 16 (a (25 + 7 * j)) (g (11 + 2 * j)) v1)) (26 + 7 * j) (putF 16 ((upA a (25 + 7 * j) (putF 16 (a (25 + 7 * j)) (g (11 + 2 * j)) v1)) (26 + 7 * j)) (g (11 + 2 * j)) (t_X10_placesOf g (upA a (25 + 7 * j) (putF 16 (a (25 + 7 * j)) (g (11 + 2 * j)) v1)) v1))) (27 + 7 * j)) (3 * (g (11 + 2 * j))) v2)) (27 + 7 * j) (putF 48 ((upA (upA (upA a (25 + 7 * j) (putF 16 (a (25 + 7 * j)) (g (11 + 2 * j)) v1)) (26 + 7 * j) (putF 16 ((upA a (25 + 7 * j) (putF 16 (a (25 + 7 * j)) (g (11 + 2 * j)) v1)) (26 + 7 * j)) (g (11 + 2 * j)) (t_X10_placesOf g (upA a (25 + 7 * j) (putF 16 (a (25 + 7 * j)) (g (11 + 2 * j)) v1)) v1))) (27 + 7 * j) (putF 48 ((upA (upA a (25 + 7 * j) (putF 16 (a (25 + 7 * j)) (g (11 + 2 * j)) v1)) (26 + 7 * j) (putF 16 ((upA a (25 + 7 * j) (putF 16 (a (25 + 7 * j)) (g (11 + 2 * j)) v1)) (26 + 7 * j)) (g (11 + 2 * j)) (t_X10_placesOf g (upA a (25 + 7 * j) (putF 16 (a (25 + 7 * j)) (g (11 + 2 * j)) v1)) v1))) (27 + 7 * j)) (3 * (g (11 + 2 * j))) v2)) (27 + 7 * j)) ((3 * (g (11 + 2 * j))) + 1) v3)) (27 + 7 * j)) ((3 * (g (11 + 2 * j))) + 2) v4)) (g (11 + 2 * j)) e2) bw121 bw135 bw86 bw136 bw137 hd_X2_lowestVariable ⟨Nat.le_of_ble_eq_true rfl, Nat.le_of_ble_eq_true rfl⟩ hP (wX_D hD) hS (va_recv hK hP (ci := 2) rfl (gx_inst E g (upA (upA (upA (upA (upA a (25 + 7 * j) (putF 16 (a (25 + 7 * j)) (g (11 + 2 * j)) v1)) (26 + 7 * j) (putF 16 ((upA a (25 + 7 * j) (putF 16 (a (25 + 7 * j)) (g (11 + 2 * j)) v1)) (26 + 7 * j)) (g (11 + 2 * j)) (t_X10_placesOf g (upA a (25 + 7 * j) (putF 16 (a (25 + 7 * j)) (g (11 + 2 * j)) v1)) v1))) (27 + 7 * j) (putF 48 ((upA (upA a (25 + 7 * j) (putF 16 (a (25 + 7 * j)) (g (11 + 2 * j)) v1)) (26 + 7 * j) (putF 16 ((upA a (25 + 7 * j) (putF 16 (a (25 + 7 * j)) (g (11 + 2 * j)) v1)) (26 + 7 * j)) (g (11 + 2 * j)) (t_X10_placesOf g (upA a (25 + 7 * j) (putF 16 (a (25 + 7 * j)) (g (11 + 2 * j)) v1)) v1))) (27 + 7 * j)) (3 * (g (11 + 2 * j))) v2)) (27 + 7 * j) (putF 48 ((upA (upA (upA a (25 + 7 * j) (putF 16 (a (25 + 7 * j)) (g (11 + 2 * j)) v1)) (26 + 7 * j) (putF 16 ((upA a (25 + 7 * j) (putF 16 (a (25 + 7 * j)) (g (11 + 2 * j)) v1)) (26 + 7 * j)) (g (11 + 2 * j)) (t_X10_placesOf g (upA a (25 + 7 * j) (putF 16 (a (25 + 7 * j)) (g (11 + 2 * j)) v1)) v1))) (27 + 7 * j) (putF 48 ((upA (upA a (25 + 7 * j) (putF 16 (a (25 + 7 * j)) (g (11 + 2 * j)) v1)) (26 + 7 * j) (putF 16 ((upA a (25 + 7 * j) (putF 16 (a (25 + 7 * j)) (g (11 + 2 * j)) v1)) (26 + 7 * j)) (g (11 + 2 * j)) (t_X10_placesOf g (upA a (25 + 7 * j) (putF 16 (a (25 + 7 * j)) (g (11 + 2 * j)) v1)) v1))) (27 + 7 * j)) (3 * (g (11 + 2 * j))) v2)) (27 + 7 * j)) ((3 * (g (11 + 2 * j))) + 1) v3)) (27 + 7 * j) (putF 48 ((upA (upA (upA (upA a (25 + 7 * j) (putF 16 (a (25 + 7 * j)) (g (11 + 2 * j)) v1)) (26 + 7 * j) (putF 16 ((upA a (25 + 7 * j) (putF 16 (a (25 + 7 * j)) (g (11 + 2 * j)) v1)) (26 + 7 * j)) (g (11 + 2 * j)) (t_X10_placesOf g (upA a (25 + 7 * j) (putF 16 (a (25 + 7 * j)) (g (11 + 2 * j)) v1)) v1))) (27 + 7 * j) (putF 48 ((upA (upA a (25 + 7 * j) (putF 16 (a (25 + 7 * j)) (g (11 + 2 * j)) v1)) (26 + 7 * j) (putF 16 ((upA a (25 + 7 * j) (putF 16 (a (25 + 7 * j)) (g (11 + 2 * j)) v1)) (26 + 7 * j)) (g (11 + 2 * j)) (t_X10_placesOf g (upA a (25 + 7 * j) (putF 16 (a (25 + 7 * j)) (g (11 + 2 * j)) v1)) v1))) (27 + 7 * j)) (3 * (g (11 + 2 * j))) v2)) (27 + 7 * j) (putF 48 ((upA (upA (upA a (25 + 7 * j) (putF 16 (a (25 + 7 * j)) (g (11 + 2 * j)) v1)) (26 + 7 * j) (putF 16 ((upA a (25 + 7 * j) (putF 16 (a (25 + 7 * j)) (g (11 + 2 * j)) v1)) (26 + 7 * j)) (g (11 + 2 * j)) (t_X10_placesOf g (upA a (25 + 7 * j) (putF 16 (a (25 + 7 * j)) (g (11 + 2 * j)) v1)) v1))) (27 + 7 * j) (putF 48 ((upA (upA a (25 + 7 * j) (putF 16 (a (25 + 7 * j)) (g (11 + 2 * j)) v1)) (26 + 7 * j) (putF 16 ((upA a (25 + 7 * j) (putF 16 (a (25 + 7 * j)) (g (11 + 2 * j)) v1)) (26 + 7 * j)) (g (11 + 2 * j)) (t_X10_placesOf g (upA a (25 + 7 * j) (putF 16 (a (25 + 7 * j)) (g (11 + 2 * j)) v1)) v1))) (27 + 7 * j)) (3 * (g (11 + 2 * j))) v2)) (27 + 7 * j)) ((3 * (g (11 + 2 * j))) + 1) v3)) (27 + 7 * j)) ((3 * (g (11 + 2 * j))) + 2) v4)) j hj)) rfl hl.1 rfl (Nat.le_of_ble_eq_true rfl) dX2_add_91 ⟨Nat.zero_le _, Nat.zero_le _⟩) hS (fun H locs hP hS => ?_)
  refine xcv (xRunN (rest := []) (As := [.ref (E.2.1 (28 + 7 * j)), .int (g (11 + 2 * j)), .int u1]) (k := 3) C0 (c_put l E (wX E g (upA (upA (upA (upA (upA a (25 + 7 * j) (putF 16 (a (25 + 7 * j)) (g (11 + 2 * j)) v1)) (26 + 7 * j) (putF 16 ((upA a (25 + 7 * j) (putF 16 (a (25 + 7 * j)) (g (11 + 2 * j)) v1)) (26 + 7 * j)) (g (11 + 2 * j)) (t_X10_placesOf g (upA a (25 + 7 * j) (putF 16 (a (25 + 7 * j)) (g (11 + 2 * j)) v1)) v1))) (27 + 7 * j) (putF 48 ((upA (upA a (25 + 7 * j) (putF 16 (a (25 + 7 * j)) (g (11 + 2 * j)) v1)) (26 + 7 * j) (putF 16 ((upA a (25 + 7 * j) (putF 16 (a (25 + 7 * j)) (g (11 + 2 * j)) v1)) (26 + 7 * j)) (g (11 + 2 * j)) (t_X10_placesOf g (upA a (25 + 7 * j) (putF 16 (a (25 + 7 * j)) (g (11 + 2 * j)) v1)) v1))) (27 + 7 * j)) (3 * (g (11 + 2 * j))) v2)) (27 + 7 * j) (putF 48 ((upA (upA (upA a (25 + 7 * j) (putF 16 (a (25 + 7 * j)) (g (11 + 2 * j)) v1)) (26 + 7 * j) (putF 16 ((upA a (25 + 7 * j) (putF 16 (a (25 + 7 * j)) (g (11 + 2 * j)) v1)) (26 + 7 * j)) (g (11 + 2 * j)) (t_X10_placesOf g (upA a (25 + 7 * j) (putF 16 (a (25 + 7 * j)) (g (11 + 2 * j)) v1)) v1))) (27 + 7 * j) (putF 48 ((upA (upA a (25 + 7 * j) (putF 16 (a (25 + 7 * j)) (g (11 + 2 * j)) v1)) (26 + 7 * j) (putF 16 ((upA a (25 + 7 * j) (putF 16 (a (25 + 7 * j)) (g (11 + 2 * j)) v1)) (26 + 7 * j)) (g (11 + 2 * j)) (t_X10_placesOf g (upA a (25 + 7 * j) (putF 16 (a (25 + 7 * j)) (g (11 + 2 * j)) v1)) v1))) (27 + 7 * j)) (3 * (g (11 + 2 * j))) v2)) (27 + 7 * j)) ((3 * (g (11 + 2 * j))) + 1) v3)) (27 + 7 * j) (putF 48 ((upA (upA (upA (upA a (25 + 7 * j) (putF 16 (a (25 + 7 * j)) (g (11 + 2 * j)) v1)) (26 + 7 * j) (putF 16 ((upA a (25 + 7 * j) (putF 16 (a (25 + 7 * j)) (g (11 + 2 * j)) v1)) (26 + 7 * j)) (g (11 + 2 * j)) (t_X10_placesOf g (upA a (25 + 7 * j) (putF 16 (a (25 + 7 * j)) (g (11 + 2 * j)) v1)) v1))) (27 + 7 * j) (putF 48 ((upA (upA a (25 + 7 * j) (putF 16 (a (25 + 7 * j)) (g (11 + 2 * j)) v1)) (26 + 7 * j) (putF 16 ((upA a (25 + 7 * j) (putF 16 (a (25 + 7 * j)) (g (11 + 2 * j)) v1)) (26 + 7 * j)) (g (11 + 2 * j)) (t_X10_placesOf g (upA a (25 + 7 * j) (putF 16 (a (25 + 7 * j)) (g (11 + 2 * j)) v1)) v1))) (27 + 7 * j)) (3 * (g (11 + 2 * j))) v2)) (27 + 7 * j) (putF 48 ((upA (upA (upA a (25 + 7 * j) (putF 16 (a (25 + 7 * j)) (g (11 + 2 * j)) v1)) (26 + 7 * j) (putF 16 ((upA a (25 + 7 * j) (putF 16 (a (25 + 7 * j)) (g (11 + 2 * j)) v1)) (26 + 7 * j)) (g (11 + 2 * j)) (t_X10_placesOf g (upA a (25 + 7 * j) (putF 16 (a (25 + 7 * j)) (g (11 + 2 * j)) v1)) v1))) (27 + 7 * j) (putF 48 ((upA (upA a (25 + 7 * j) (putF 16 (a (25 + 7 * j)) (g (11 + 2 * j)) v1)) (26 + 7 * j) (putF 16 ((upA a (25 + 7 * j) (putF 16 (a (25 + 7 * j)) (g (11 + 2 * j)) v1)) (26 + 7 * j)) (g (11 + 2 * j)) (t_X10_placesOf g (upA a (25 + 7 * j) (putF 16 (a (25 + 7 * j)) (g (11 + 2 * j)) v1)) v1))) (27 + 7 * j)) (3 * (g (11 + 2 * j))) v2)) (27 + 7 * j)) ((3 * (g (11 + 2 * j))) + 1) v3)) (27 + 7 * j)) ((3 * (g (11 + 2 * j))) + 2) v4))) (28 + 7 * j) (g (11 + 2 * j)) u1 (gx_ia28 E g (upA (upA (upA (upA (upA a (25 + 7 * j) (putF 16 (a (25 + 7 * j)) (g (11 + 2 * j)) v1)) (26 + 7 * j) (putF 16 ((upA a (25 + 7 * j) (putF 16 (a (25 + 7 * j)) (g (11 + 2 * j)) v1)) (26 + 7 * j)) (g (11 + 2 * j)) (t_X10_placesOf g (upA a (25 + 7 * j) (putF 16 (a (25 + 7 * j)) (g (11 + 2 * j)) v1)) v1))) (27 + 7 * j) (putF 48 ((upA (upA a (25 + 7 * j) (putF 16 (a (25 + 7 * j)) (g (11 + 2 * j)) v1)) (26 + 7 * j) (putF 16 ((upA a (25 + 7 * j) (putF 16 (a (25 + 7 * j)) (g (11 + 2 * j)) v1)) (26 + 7 * j)) (g (11 + 2 * j)) (t_X10_placesOf g (upA a (25 + 7 * j) (putF 16 (a (25 + 7 * j)) (g (11 + 2 * j)) v1)) v1))) (27 + 7 * j)) (3 * (g (11 + 2 * j))) v2)) (27 + 7 * j) (putF 48 ((upA (upA (upA a (25 + 7 * j) (putF 16 (a (25 + 7 * j)) (g (11 + 2 * j)) v1)) (26 + 7 * j) (putF 16 ((upA a (25 + 7 * j) (putF 16 (a (25 + 7 * j)) (g (11 + 2 * j)) v1)) (26 + 7 * j)) (g (11 + 2 * j)) (t_X10_placesOf g (upA a (25 + 7 * j) (putF 16 (a (25 + 7 * j)) (g (11 + 2 * j)) v1)) v1))) (27 + 7 * j) (putF 48 ((upA (upA a (25 + 7 * j) (putF 16 (a (25 + 7 * j)) (g (11 + 2 * j)) v1)) (26 + 7 * j) (putF 16 ((upA a (25 + 7 * j) (putF 16 (a (25 + 7 * j)) (g (11 + 2 * j)) v1)) (26 + 7 * j)) (g (11 + 2 * j)) (t_X10_placesOf g (upA a (25 + 7 * j) (putF 16 (a (25 + 7 * j)) (g (11 + 2 * j)) v1)) v1))) (27 + 7 * j)) (3 * (g (11 + 2 * j))) v2)) (27 + 7 * j)) ((3 * (g (11 + 2 * j))) + 1) v3)) (27 + 7 * j) (putF 48 ((upA (upA (upA (upA a (25 + 7 * j) (putF 16 (a (25 + 7 * j)) (g (11 + 2 * j)) v1)) (26 + 7 * j) (putF 16 ((upA a (25 + 7 * j) (putF 16 (a (25 + 7 * j)) (g (11 + 2 * j)) v1)) (26 + 7 * j)) (g (11 + 2 * j)) (t_X10_placesOf g (upA a (25 + 7 * j) (putF 16 (a (25 + 7 * j)) (g (11 + 2 * j)) v1)) v1))) (27 + 7 * j) (putF 48 ((upA (upA a (25 + 7 * j) (putF 16 (a (25 + 7 * j)) (g (11 + 2 * j)) v1)) (26 + 7 * j) (putF 16 ((upA a (25 + 7 * j) (putF 16 (a (25 + 7 * j)) (g (11 + 2 * j)) v1)) (26 + 7 * j)) (g (11 + 2 * j)) (t_X10_placesOf g (upA a (25 + 7 * j) (putF 16 (a (25 + 7 * j)) (g (11 + 2 * j)) v1)) v1))) (27 + 7 * j)) (3 * (g (11 + 2 * j))) v2)) (27 + 7 * j) (putF 48 ((upA (upA (upA a (25 + 7 * j) (putF 16 (a (25 + 7 * j)) (g (11 + 2 * j)) v1)) (26 + 7 * j) (putF 16 ((upA a (25 + 7 * j) (putF 16 (a (25 + 7 * j)) (g (11 + 2 * j)) v1)) (26 + 7 * j)) (g (11 + 2 * j)) (t_X10_placesOf g (upA a (25 + 7 * j) (putF 16 (a (25 + 7 * j)) (g (11 + 2 * j)) v1)) v1))) (27 + 7 * j) (putF 48 ((upA (upA a (25 + 7 * j) (putF 16 (a (25 + 7 * j)) (g (11 + 2 * j)) v1)) (26 + 7 * j) (putF 16 ((upA a (25 + 7 * j) (putF 16 (a (25 + 7 * j)) (g (11 + 2 * j)) v1)) (26 + 7 * j)) (g (11 + 2 * j)) (t_X10_placesOf g (upA a (25 + 7 * j) (putF 16 (a (25 + 7 * j)) (g (11 + 2 * j)) v1)) v1))) (27 + 7 * j)) (3 * (g (11 + 2 * j))) v2)) (27 + 7 * j)) ((3 * (g (11 + 2 * j))) + 1) v3)) (27 + 7 * j)) ((3 * (g (11 + 2 * j))) + 2) v4)) j hj) (Nat.le_of_ble_eq_true rfl) (sx_ia28 E g (upA (upA (upA (upA (upA a (25 + 7 * j) (putF 16 (a (25 + 7 * j)) (g (11 + 2 * j)) v1)) (26 + 7 * j) (putF 16 ((upA a (25 + 7 * j) (putF 16 (a (25 + 7 * j)) (g (11 + 2 * j)) v1)) (26 + 7 * j)) (g (11 + 2 * j)) (t_X10_placesOf g (upA a (25 + 7 * j) (putF 16 (a (25 + 7 * j)) (g (11 + 2 * j)) v1)) v1))) (27 + 7 * j) (putF 48 ((upA (upA a (25 + 7 * j) (putF 16 (a (25 + 7 * j)) (g (11 + 2 * j)) v1)) (26 + 7 * j) (putF 16 ((upA a (25 + 7 * j) (putF 16 (a (25 + 7 * j)) (g (11 + 2 * j)) v1)) (26 + 7 * j)) (g (11 + 2 * j)) (t_X10_placesOf g (upA a (25 + 7 * j) (putF 16 (a (25 + 7 * j)) (g (11 + 2 * j)) v1)) v1))) (27 + 7 * j)) (3 * (g (11 + 2 * j))) v2)) (27 + 7 * j) (putF 48 ((upA (upA (upA a (25 + 7 * j) (putF 16 (a (25 + 7 * j)) (g (11 + 2 * j)) v1)) (26 + 7 * j) (putF 16 ((upA a (25 + 7 * j) (putF 16 (a (25 + 7 * j)) (g (11 + 2 * j)) v1)) (26 + 7 * j)) (g (11 + 2 * j)) (t_X10_placesOf g (upA a (25 + 7 * j) (putF 16 (a (25 + 7 * j)) (g (11 + 2 * j)) v1)) v1))) (27 + 7 * j) (putF 48 ((upA (upA a (25 + 7 * j) (putF 16 (a (25 + 7 * j)) (g (11 + 2 * j)) v1)) (26 + 7 * j) (putF 16 ((upA a (25 + 7 * j) (putF 16 (a (25 + 7 * j)) (g (11 + 2 * j)) v1)) (26 + 7 * j)) (g (11 + 2 * j)) (t_X10_placesOf g (upA a (25 + 7 * j) (putF 16 (a (25 + 7 * j)) (g (11 + 2 * j)) v1)) v1))) (27 + 7 * j)) (3 * (g (11 + 2 * j))) v2)) (27 + 7 * j)) ((3 * (g (11 + 2 * j))) + 1) v3)) (27 + 7 * j) (putF 48 ((upA (upA (upA (upA a (25 + 7 * j) (putF 16 (a (25 + 7 * j)) (g (11 + 2 * j)) v1)) (26 + 7 * j) (putF 16 ((upA a (25 + 7 * j) (putF 16 (a (25 + 7 * j)) (g (11 + 2 * j)) v1)) (26 + 7 * j)) (g (11 + 2 * j)) (t_X10_placesOf g (upA a (25 + 7 * j) (putF 16 (a (25 + 7 * j)) (g (11 + 2 * j)) v1)) v1))) (27 + 7 * j) (putF 48 ((upA (upA a (25 + 7 * j) (putF 16 (a (25 + 7 * j)) (g (11 + 2 * j)) v1)) (26 + 7 * j) (putF 16 ((upA a (25 + 7 * j) (putF 16 (a (25 + 7 * j)) (g (11 + 2 * j)) v1)) (26 + 7 * j)) (g (11 + 2 * j)) (t_X10_placesOf g (upA a (25 + 7 * j) (putF 16 (a (25 + 7 * j)) (g (11 + 2 * j)) v1)) v1))) (27 + 7 * j)) (3 * (g (11 + 2 * j))) v2)) (27 + 7 * j) (putF 48 ((upA (upA (upA a (25 + 7 * j) (putF 16 (a (25 + 7 * j)) (g (11 + 2 * j)) v1)) (26 + 7 * j) (putF 16 ((upA a (25 + 7 * j) (putF 16 (a (25 + 7 * j)) (g (11 + 2 * j)) v1)) (26 + 7 * j)) (g (11 + 2 * j)) (t_X10_placesOf g (upA a (25 + 7 * j) (putF 16 (a (25 + 7 * j)) (g (11 + 2 * j)) v1)) v1))) (27 + 7 * j) (putF 48 ((upA (upA a (25 + 7 * j) (putF 16 (a (25 + 7 * j)) (g (11 + 2 * j)) v1)) (26 + 7 * j) (putF 16 ((upA a (25 + 7 * j) (putF 16 (a (25 + 7 * j)) (g (11 + 2 * j)) v1)) (26 + 7 * j)) (g (11 + 2 * j)) (t_X10_placesOf g (upA a (25 + 7 * j) (putF 16 (a (25 + 7 * j)) (g (11 + 2 * j)) v1)) v1))) (27 + 7 * j)) (3 * (g (11 + 2 * j))) v2)) (27 + 7 * j)) ((3 * (g (11 + 2 * j))) + 1) v3)) (27 + 7 * j)) ((3 * (g (11 + 2 * j))) + 2) v4)) j hj (putF 16 ((upA (upA (upA (upA (upA a (25 + 7 * j) (putF 16 (a (25 + 7 * j)) (g (11 + 2 * j)) v1)) (26 + 7 * j) (putF 16 ((upA a (25 + 7 * j) (putF 16 (a (25 + 7 * j)) (g (11 + 2 * j)) v1)) (26 + 7 * j)) (g (11 + 2 * j)) (t_X10_placesOf g (upA a (25 + 7 * j) (putF 16 (a (25 + 7 * j)) (g (11 + 2 * j)) v1)) v1))) (27 + 7 * j) (putF 48 ((upA (upA a (25 + 7 * j) (putF 16 (a (25 + 7 * j)) (g (11 + 2 * j)) v1)) (26 + 7 * j) (putF 16 ((upA a (25 + 7 * j) (putF 16 (a (25 + 7 * j)) (g (11 + 2 * j)) v1)) (26 + 7 * j)) (g (11 + 2 * j)) (t_X10_placesOf g (upA a (25 + 7 * j) (putF 16 (a (25 + 7 * j)) (g (11 + 2 * j)) v1)) v1))) (27 + 7 * j)) (3 * (g (11 + 2 * j))) v2)) (27 + 7 * j) (putF 48 ((upA (upA (upA a (25 + 7 * j) (putF 16 (a (25 + 7 * j)) (g (11 + 2 * j)) v1)) (26 + 7 * j) (putF 16 ((upA a (25 + 7 * j) (putF 16 (a (25 + 7 * j)) (g (11 + 2 * j)) v1)) (26 + 7 * j)) (g (11 + 2 * j)) (t_X10_placesOf g (upA a (25 + 7 * j) (putF 16 (a (25 + 7 * j)) (g (11 + 2 * j)) v1)) v1))) (27 + 7 * j) (putF 48 ((upA (upA a (25 + 7 * j) (putF 16 (a (25 + 7 * j)) (g (11 + 2 * j)) v1)) (26 + 7 * j) (putF 16 ((upA a (25 + 7 * j) (putF 16 (a (25 + 7 * j)) (g (11 + 2 * j)) v1)) (26 + 7 * j)) (g (11 + 2 * j)) (t_X10_placesOf g (upA a (25 + 7 * j) (putF 16 (a (25 + 7 * j)) (g (11 + 2 * j)) v1)) v1))) (27 + 7 * j)) (3 * (g (11 + 2 * j))) v2)) (27 + 7 * j)) ((3 * (g (11 + 2 * j))) + 1) v3)) (27 + 7 * j) (putF 48 ((upA (upA (upA (upA a (25 + 7 * j) (putF 16 (a (25 + 7 * j)) (g (11 + 2 * j)) v1)) (26 + 7 * j) (putF 16 ((upA a (25 + 7 * j) (putF 16 (a (25 + 7 * j)) (g (11 + 2 * j)) v1)) (26 + 7 * j)) (g (11 + 2 * j)) (t_X10_placesOf g (upA a (25 + 7 * j) (putF 16 (a (25 + 7 * j)) (g (11 + 2 * j)) v1)) v1))) (27 + 7 * j) (putF 48 ((upA (upA a (25 + 7 * j) (putF 16 (a (25 + 7 * j)) (g (11 + 2 * j)) v1)) (26 + 7 * j) (putF 16 ((upA a (25 + 7 * j) (putF 16 (a (25 + 7 * j)) (g (11 + 2 * j)) v1)) (26 + 7 * j)) (g (11 + 2 * j)) (t_X10_placesOf g (upA a (25 + 7 * j) (putF 16 (a (25 + 7 * j)) (g (11 + 2 * j)) v1)) v1))) (27 + 7 * j)) (3 * (g (11 + 2 * j))) v2)) (27 + 7 * j) (putF 48 ((upA (upA (upA a (25 + 7 * j) (putF 16 (a (25 + 7 * j)) (g (11 + 2 * j)) v1)) (26 + 7 * j) (putF 16 ((upA a (25 + 7 * j) (putF 16 (a (25 + 7 * j)) (g (11 + 2 * j)) v1)) (26 + 7 * j)) (g (11 + 2 * j)) (t_X10_placesOf g (upA a (25 + 7 * j) (putF 16 (a (25 + 7 * j)) (g (11 + 2 * j)) v1)) v1))) (27 + 7 * j) (putF 48 ((upA (upA a (25 + 7 * j) (putF 16 (a (25 + 7 * j)) (g (11 + 2 * j)) v1)) (26 + 7 * j) (putF 16 ((upA a (25 + 7 * j) (putF 16 (a (25 + 7 * j)) (g (11 + 2 * j)) v1)) (26 + 7 * j)) (g (11 + 2 * j)) (t_X10_placesOf g (upA a (25 + 7 * j) (putF 16 (a (25 + 7 * j)) (g (11 + 2 * j)) v1)) v1))) (27 + 7 * j)) (3 * (g (11 + 2 * j))) v2)) (27 + 7 * j)) ((3 * (g (11 + 2 * j))) + 1) v3)) (27 + 7 * j)) ((3 * (g (11 + 2 * j))) + 2) v4)) (28 + 7 * j)) (g (11 + 2 * j)) u1))) bw14 nw7 bw13 bw23 hd_X11_put ⟨Nat.le_of_ble_eq_true rfl, Nat.le_of_ble_eq_true rfl⟩ hP (wX_D hD) hS rfl hl.1 rfl (Nat.le_of_ble_eq_true rfl) dX2_add_94 ⟨Nat.zero_le _, Nat.zero_le _⟩) hS (fun H locs hP hS => ?_)
  refine lv_aload_n hx hb dX2_add_97 rfl (lv_at hl 0 rfl) ?_
  refine lv_dup hx hb dX2_add_98 rfl ?_
  refine va_get (C := RX2) (T := TX2) (N := 10) hx hb hw bfX20 hown hK hP (24 + 7 * j) (gx_inst E g (upA (upA (upA (upA (upA (upA a (25 + 7 * j) (putF 16 (a (25 + 7 * j)) (g (11 + 2 * j)) v1)) (26 + 7 * j) (putF 16 ((upA a (25 + 7 * j) (putF 16 (a (25 + 7 * j)) (g (11 + 2 * j)) v1)) (26 + 7 * j)) (g (11 + 2 * j)) (t_X10_placesOf g (upA a (25 + 7 * j) (putF 16 (a (25 + 7 * j)) (g (11 + 2 * j)) v1)) v1))) (27 + 7 * j) (putF 48 ((upA (upA a (25 + 7 * j) (putF 16 (a (25 + 7 * j)) (g (11 + 2 * j)) v1)) (26 + 7 * j) (putF 16 ((upA a (25 + 7 * j) (putF 16 (a (25 + 7 * j)) (g (11 + 2 * j)) v1)) (26 + 7 * j)) (g (11 + 2 * j)) (t_X10_placesOf g (upA a (25 + 7 * j) (putF 16 (a (25 + 7 * j)) (g (11 + 2 * j)) v1)) v1))) (27 + 7 * j)) (3 * (g (11 + 2 * j))) v2)) (27 + 7 * j) (putF 48 ((upA (upA (upA a (25 + 7 * j) (putF 16 (a (25 + 7 * j)) (g (11 + 2 * j)) v1)) (26 + 7 * j) (putF 16 ((upA a (25 + 7 * j) (putF 16 (a (25 + 7 * j)) (g (11 + 2 * j)) v1)) (26 + 7 * j)) (g (11 + 2 * j)) (t_X10_placesOf g (upA a (25 + 7 * j) (putF 16 (a (25 + 7 * j)) (g (11 + 2 * j)) v1)) v1))) (27 + 7 * j) (putF 48 ((upA (upA a (25 + 7 * j) (putF 16 (a (25 + 7 * j)) (g (11 + 2 * j)) v1)) (26 + 7 * j) (putF 16 ((upA a (25 + 7 * j) (putF 16 (a (25 + 7 * j)) (g (11 + 2 * j)) v1)) (26 + 7 * j)) (g (11 + 2 * j)) (t_X10_placesOf g (upA a (25 + 7 * j) (putF 16 (a (25 + 7 * j)) (g (11 + 2 * j)) v1)) v1))) (27 + 7 * j)) (3 * (g (11 + 2 * j))) v2)) (27 + 7 * j)) ((3 * (g (11 + 2 * j))) + 1) v3)) (27 + 7 * j) (putF 48 ((upA (upA (upA (upA a (25 + 7 * j) (putF 16 (a (25 + 7 * j)) (g (11 + 2 * j)) v1)) (26 + 7 * j) (putF 16 ((upA a (25 + 7 * j) (putF 16 (a (25 + 7 * j)) (g (11 + 2 * j)) v1)) (26 + 7 * j)) (g (11 + 2 * j)) (t_X10_placesOf g (upA a (25 + 7 * j) (putF 16 (a (25 + 7 * j)) (g (11 + 2 * j)) v1)) v1))) (27 + 7 * j) (putF 48 ((upA (upA a (25 + 7 * j) (putF 16 (a (25 + 7 * j)) (g (11 + 2 * j)) v1)) (26 + 7 * j) (putF 16 ((upA a (25 + 7 * j) (putF 16 (a (25 + 7 * j)) (g (11 + 2 * j)) v1)) (26 + 7 * j)) (g (11 + 2 * j)) (t_X10_placesOf g (upA a (25 + 7 * j) (putF 16 (a (25 + 7 * j)) (g (11 + 2 * j)) v1)) v1))) (27 + 7 * j)) (3 * (g (11 + 2 * j))) v2)) (27 + 7 * j) (putF 48 ((upA (upA (upA a (25 + 7 * j) (putF 16 (a (25 + 7 * j)) (g (11 + 2 * j)) v1)) (26 + 7 * j) (putF 16 ((upA a (25 + 7 * j) (putF 16 (a (25 + 7 * j)) (g (11 + 2 * j)) v1)) (26 + 7 * j)) (g (11 + 2 * j)) (t_X10_placesOf g (upA a (25 + 7 * j) (putF 16 (a (25 + 7 * j)) (g (11 + 2 * j)) v1)) v1))) (27 + 7 * j) (putF 48 ((upA (upA a (25 + 7 * j) (putF 16 (a (25 + 7 * j)) (g (11 + 2 * j)) v1)) (26 + 7 * j) (putF 16 ((upA a (25 + 7 * j) (putF 16 (a (25 + 7 * j)) (g (11 + 2 * j)) v1)) (26 + 7 * j)) (g (11 + 2 * j)) (t_X10_placesOf g (upA a (25 + 7 * j) (putF 16 (a (25 + 7 * j)) (g (11 + 2 * j)) v1)) v1))) (27 + 7 * j)) (3 * (g (11 + 2 * j))) v2)) (27 + 7 * j)) ((3 * (g (11 + 2 * j))) + 1) v3)) (27 + 7 * j)) ((3 * (g (11 + 2 * j))) + 2) v4)) (28 + 7 * j) (putF 16 ((upA (upA (upA (upA (upA a (25 + 7 * j) (putF 16 (a (25 + 7 * j)) (g (11 + 2 * j)) v1)) (26 + 7 * j) (putF 16 ((upA a (25 + 7 * j) (putF 16 (a (25 + 7 * j)) (g (11 + 2 * j)) v1)) (26 + 7 * j)) (g (11 + 2 * j)) (t_X10_placesOf g (upA a (25 + 7 * j) (putF 16 (a (25 + 7 * j)) (g (11 + 2 * j)) v1)) v1))) (27 + 7 * j) (putF 48 ((upA (upA a (25 + 7 * j) (putF 16 (a (25 + 7 * j)) (g (11 + 2 * j)) v1)) (26 + 7 * j) (putF 16 ((upA a (25 + 7 * j) (putF 16 (a (25 + 7 * j)) (g (11 + 2 * j)) v1)) (26 + 7 * j)) (g (11 + 2 * j)) (t_X10_placesOf g (upA a (25 + 7 * j) (putF 16 (a (25 + 7 * j)) (g (11 + 2 * j)) v1)) v1))) (27 + 7 * j)) (3 * (g (11 + 2 * j))) v2)) (27 + 7 * j) (putF 48 ((upA (upA (upA a (25 + 7 * j) (putF 16 (a (25 + 7 * j)) (g (11 + 2 * j)) v1)) (26 + 7 * j) (putF 16 ((upA a (25 + 7 * j) (putF 16 (a (25 + 7 * j)) (g (11 + 2 * j)) v1)) (26 + 7 * j)) (g (11 + 2 * j)) (t_X10_placesOf g (upA a (25 + 7 * j) (putF 16 (a (25 + 7 * j)) (g (11 + 2 * j)) v1)) v1))) (27 + 7 * j) (putF 48 ((upA (upA a (25 + 7 * j) (putF 16 (a (25 + 7 * j)) (g (11 + 2 * j)) v1)) (26 + 7 * j) (putF 16 ((upA a (25 + 7 * j) (putF 16 (a (25 + 7 * j)) (g (11 + 2 * j)) v1)) (26 + 7 * j)) (g (11 + 2 * j)) (t_X10_placesOf g (upA a (25 + 7 * j) (putF 16 (a (25 + 7 * j)) (g (11 + 2 * j)) v1)) v1))) (27 + 7 * j)) (3 * (g (11 + 2 * j))) v2)) (27 + 7 * j)) ((3 * (g (11 + 2 * j))) + 1) v3)) (27 + 7 * j) (putF 48 ((upA (upA (upA (upA a (25 + 7 * j) (putF 16 (a (25 + 7 * j)) (g (11 + 2 * j)) v1)) (26 + 7 * j) (putF 16 ((upA a (25 + 7 * j) (putF 16 (a (25 + 7 * j)) (g (11 + 2 * j)) v1)) (26 + 7 * j)) (g (11 + 2 * j)) (t_X10_placesOf g (upA a (25 + 7 * j) (putF 16 (a (25 + 7 * j)) (g (11 + 2 * j)) v1)) v1))) (27 + 7 * j) (putF 48 ((upA (upA a (25 + 7 * j) (putF 16 (a (25 + 7 * j)) (g (11 + 2 * j)) v1)) (26 + 7 * j) (putF 16 ((upA a (25 + 7 * j) (putF 16 (a (25 + 7 * j)) (g (11 + 2 * j)) v1)) (26 + 7 * j)) (g (11 + 2 * j)) (t_X10_placesOf g (upA a (25 + 7 * j) (putF 16 (a (25 + 7 * j)) (g (11 + 2 * j)) v1)) v1))) (27 + 7 * j)) (3 * (g (11 + 2 * j))) v2)) (27 + 7 * j) (putF 48 ((upA (upA (upA a (25 + 7 * j) (putF 16 (a (25 + 7 * j)) (g (11 + 2 * j)) v1)) (26 + 7 * j) (putF 16 ((upA a (25 + 7 * j) (putF 16 (a (25 + 7 * j)) (g (11 + 2 * j)) v1)) (26 + 7 * j)) (g (11 + 2 * j)) (t_X10_placesOf g (upA a (25 + 7 * j) (putF 16 (a (25 + 7 * j)) (g (11 + 2 * j)) v1)) v1))) (27 + 7 * j) (putF 48 ((upA (upA a (25 + 7 * j) (putF 16 (a (25 + 7 * j)) (g (11 + 2 * j)) v1)) (26 + 7 * j) (putF 16 ((upA a (25 + 7 * j) (putF 16 (a (25 + 7 * j)) (g (11 + 2 * j)) v1)) (26 + 7 * j)) (g (11 + 2 * j)) (t_X10_placesOf g (upA a (25 + 7 * j) (putF 16 (a (25 + 7 * j)) (g (11 + 2 * j)) v1)) v1))) (27 + 7 * j)) (3 * (g (11 + 2 * j))) v2)) (27 + 7 * j)) ((3 * (g (11 + 2 * j))) + 1) v3)) (27 + 7 * j)) ((3 * (g (11 + 2 * j))) + 2) v4)) (28 + 7 * j)) (g (11 + 2 * j)) u1)) j hj) rfl 0 (by decide) (hw _ bw92) (fun _ h9 => h9) rfl dX2_add_99 ?_
  refine lv_iconst (v := 1) hx hb dX2_add_102 (by decide) ?_
  refine lv_iadd hx hb dX2_add_103 ?_
  refine va_put (v := .int ((g (11 + 2 * j)) + 1)) (ty := .int) (C := RX2) (T := TX2) (N := 10) hx hb hw bfX20 tyX2 tyX2_ok nmX2 hown hK hP (wX_D hD) hS (24 + 7 * j) (gx_inst E g (upA (upA (upA (upA (upA (upA a (25 + 7 * j) (putF 16 (a (25 + 7 * j)) (g (11 + 2 * j)) v1)) (26 + 7 * j) (putF 16 ((upA a (25 + 7 * j) (putF 16 (a (25 + 7 * j)) (g (11 + 2 * j)) v1)) (26 + 7 * j)) (g (11 + 2 * j)) (t_X10_placesOf g (upA a (25 + 7 * j) (putF 16 (a (25 + 7 * j)) (g (11 + 2 * j)) v1)) v1))) (27 + 7 * j) (putF 48 ((upA (upA a (25 + 7 * j) (putF 16 (a (25 + 7 * j)) (g (11 + 2 * j)) v1)) (26 + 7 * j) (putF 16 ((upA a (25 + 7 * j) (putF 16 (a (25 + 7 * j)) (g (11 + 2 * j)) v1)) (26 + 7 * j)) (g (11 + 2 * j)) (t_X10_placesOf g (upA a (25 + 7 * j) (putF 16 (a (25 + 7 * j)) (g (11 + 2 * j)) v1)) v1))) (27 + 7 * j)) (3 * (g (11 + 2 * j))) v2)) (27 + 7 * j) (putF 48 ((upA (upA (upA a (25 + 7 * j) (putF 16 (a (25 + 7 * j)) (g (11 + 2 * j)) v1)) (26 + 7 * j) (putF 16 ((upA a (25 + 7 * j) (putF 16 (a (25 + 7 * j)) (g (11 + 2 * j)) v1)) (26 + 7 * j)) (g (11 + 2 * j)) (t_X10_placesOf g (upA a (25 + 7 * j) (putF 16 (a (25 + 7 * j)) (g (11 + 2 * j)) v1)) v1))) (27 + 7 * j) (putF 48 ((upA (upA a (25 + 7 * j) (putF 16 (a (25 + 7 * j)) (g (11 + 2 * j)) v1)) (26 + 7 * j) (putF 16 ((upA a (25 + 7 * j) (putF 16 (a (25 + 7 * j)) (g (11 + 2 * j)) v1)) (26 + 7 * j)) (g (11 + 2 * j)) (t_X10_placesOf g (upA a (25 + 7 * j) (putF 16 (a (25 + 7 * j)) (g (11 + 2 * j)) v1)) v1))) (27 + 7 * j)) (3 * (g (11 + 2 * j))) v2)) (27 + 7 * j)) ((3 * (g (11 + 2 * j))) + 1) v3)) (27 + 7 * j) (putF 48 ((upA (upA (upA (upA a (25 + 7 * j) (putF 16 (a (25 + 7 * j)) (g (11 + 2 * j)) v1)) (26 + 7 * j) (putF 16 ((upA a (25 + 7 * j) (putF 16 (a (25 + 7 * j)) (g (11 + 2 * j)) v1)) (26 + 7 * j)) (g (11 + 2 * j)) (t_X10_placesOf g (upA a (25 + 7 * j) (putF 16 (a (25 + 7 * j)) (g (11 + 2 * j)) v1)) v1))) (27 + 7 * j) (putF 48 ((upA (upA a (25 + 7 * j) (putF 16 (a (25 + 7 * j)) (g (11 + 2 * j)) v1)) (26 + 7 * j) (putF 16 ((upA a (25 + 7 * j) (putF 16 (a (25 + 7 * j)) (g (11 + 2 * j)) v1)) (26 + 7 * j)) (g (11 + 2 * j)) (t_X10_placesOf g (upA a (25 + 7 * j) (putF 16 (a (25 + 7 * j)) (g (11 + 2 * j)) v1)) v1))) (27 + 7 * j)) (3 * (g (11 + 2 * j))) v2)) (27 + 7 * j) (putF 48 ((upA (upA (upA a (25 + 7 * j) (putF 16 (a (25 + 7 * j)) (g (11 + 2 * j)) v1)) (26 + 7 * j) (putF 16 ((upA a (25 + 7 * j) (putF 16 (a (25 + 7 * j)) (g (11 + 2 * j)) v1)) (26 + 7 * j)) (g (11 + 2 * j)) (t_X10_placesOf g (upA a (25 + 7 * j) (putF 16 (a (25 + 7 * j)) (g (11 + 2 * j)) v1)) v1))) (27 + 7 * j) (putF 48 ((upA (upA a (25 + 7 * j) (putF 16 (a (25 + 7 * j)) (g (11 + 2 * j)) v1)) (26 + 7 * j) (putF 16 ((upA a (25 + 7 * j) (putF 16 (a (25 + 7 * j)) (g (11 + 2 * j)) v1)) (26 + 7 * j)) (g (11 + 2 * j)) (t_X10_placesOf g (upA a (25 + 7 * j) (putF 16 (a (25 + 7 * j)) (g (11 + 2 * j)) v1)) v1))) (27 + 7 * j)) (3 * (g (11 + 2 * j))) v2)) (27 + 7 * j)) ((3 * (g (11 + 2 * j))) + 1) v3)) (27 + 7 * j)) ((3 * (g (11 + 2 * j))) + 2) v4)) (28 + 7 * j) (putF 16 ((upA (upA (upA (upA (upA a (25 + 7 * j) (putF 16 (a (25 + 7 * j)) (g (11 + 2 * j)) v1)) (26 + 7 * j) (putF 16 ((upA a (25 + 7 * j) (putF 16 (a (25 + 7 * j)) (g (11 + 2 * j)) v1)) (26 + 7 * j)) (g (11 + 2 * j)) (t_X10_placesOf g (upA a (25 + 7 * j) (putF 16 (a (25 + 7 * j)) (g (11 + 2 * j)) v1)) v1))) (27 + 7 * j) (putF 48 ((upA (upA a (25 + 7 * j) (putF 16 (a (25 + 7 * j)) (g (11 + 2 * j)) v1)) (26 + 7 * j) (putF 16 ((upA a (25 + 7 * j) (putF 16 (a (25 + 7 * j)) (g (11 + 2 * j)) v1)) (26 + 7 * j)) (g (11 + 2 * j)) (t_X10_placesOf g (upA a (25 + 7 * j) (putF 16 (a (25 + 7 * j)) (g (11 + 2 * j)) v1)) v1))) (27 + 7 * j)) (3 * (g (11 + 2 * j))) v2)) (27 + 7 * j) (putF 48 ((upA (upA (upA a (25 + 7 * j) (putF 16 (a (25 + 7 * j)) (g (11 + 2 * j)) v1)) (26 + 7 * j) (putF 16 ((upA a (25 + 7 * j) (putF 16 (a (25 + 7 * j)) (g (11 + 2 * j)) v1)) (26 + 7 * j)) (g (11 + 2 * j)) (t_X10_placesOf g (upA a (25 + 7 * j) (putF 16 (a (25 + 7 * j)) (g (11 + 2 * j)) v1)) v1))) (27 + 7 * j) (putF 48 ((upA (upA a (25 + 7 * j) (putF 16 (a (25 + 7 * j)) (g (11 + 2 * j)) v1)) (26 + 7 * j) (putF 16 ((upA a (25 + 7 * j) (putF 16 (a (25 + 7 * j)) (g (11 + 2 * j)) v1)) (26 + 7 * j)) (g (11 + 2 * j)) (t_X10_placesOf g (upA a (25 + 7 * j) (putF 16 (a (25 + 7 * j)) (g (11 + 2 * j)) v1)) v1))) (27 + 7 * j)) (3 * (g (11 + 2 * j))) v2)) (27 + 7 * j)) ((3 * (g (11 + 2 * j))) + 1) v3)) (27 + 7 * j) (putF 48 ((upA (upA (upA (upA a (25 + 7 * j) (putF 16 (a (25 + 7 * j)) (g (11 + 2 * j)) v1)) (26 + 7 * j) (putF 16 ((upA a (25 + 7 * j) (putF 16 (a (25 + 7 * j)) (g (11 + 2 * j)) v1)) (26 + 7 * j)) (g (11 + 2 * j)) (t_X10_placesOf g (upA a (25 + 7 * j) (putF 16 (a (25 + 7 * j)) (g (11 + 2 * j)) v1)) v1))) (27 + 7 * j) (putF 48 ((upA (upA a (25 + 7 * j) (putF 16 (a (25 + 7 * j)) (g (11 + 2 * j)) v1)) (26 + 7 * j) (putF 16 ((upA a (25 + 7 * j) (putF 16 (a (25 + 7 * j)) (g (11 + 2 * j)) v1)) (26 + 7 * j)) (g (11 + 2 * j)) (t_X10_placesOf g (upA a (25 + 7 * j) (putF 16 (a (25 + 7 * j)) (g (11 + 2 * j)) v1)) v1))) (27 + 7 * j)) (3 * (g (11 + 2 * j))) v2)) (27 + 7 * j) (putF 48 ((upA (upA (upA a (25 + 7 * j) (putF 16 (a (25 + 7 * j)) (g (11 + 2 * j)) v1)) (26 + 7 * j) (putF 16 ((upA a (25 + 7 * j) (putF 16 (a (25 + 7 * j)) (g (11 + 2 * j)) v1)) (26 + 7 * j)) (g (11 + 2 * j)) (t_X10_placesOf g (upA a (25 + 7 * j) (putF 16 (a (25 + 7 * j)) (g (11 + 2 * j)) v1)) v1))) (27 + 7 * j) (putF 48 ((upA (upA a (25 + 7 * j) (putF 16 (a (25 + 7 * j)) (g (11 + 2 * j)) v1)) (26 + 7 * j) (putF 16 ((upA a (25 + 7 * j) (putF 16 (a (25 + 7 * j)) (g (11 + 2 * j)) v1)) (26 + 7 * j)) (g (11 + 2 * j)) (t_X10_placesOf g (upA a (25 + 7 * j) (putF 16 (a (25 + 7 * j)) (g (11 + 2 * j)) v1)) v1))) (27 + 7 * j)) (3 * (g (11 + 2 * j))) v2)) (27 + 7 * j)) ((3 * (g (11 + 2 * j))) + 1) v3)) (27 + 7 * j)) ((3 * (g (11 + 2 * j))) + 2) v4)) (28 + 7 * j)) (g (11 + 2 * j)) u1)) j hj) rfl 0 (by decide) (hw _ bw92) (fun _ h9 => h9) rfl (by decide +kernel) rfl rfl (Nat.le_of_ble_eq_true rfl) dX2_add_104 (fun H locs hP _ hS => ?_)
  have hP := xP_eq (sx_ig11 E g (upA (upA (upA (upA (upA (upA a (25 + 7 * j) (putF 16 (a (25 + 7 * j)) (g (11 + 2 * j)) v1)) (26 + 7 * j) (putF 16 ((upA a (25 + 7 * j) (putF 16 (a (25 + 7 * j)) (g (11 + 2 * j)) v1)) (26 + 7 * j)) (g (11 + 2 * j)) (t_X10_placesOf g (upA a (25 + 7 * j) (putF 16 (a (25 + 7 * j)) (g (11 + 2 * j)) v1)) v1))) (27 + 7 * j) (putF 48 ((upA (upA a (25 + 7 * j) (putF 16 (a (25 + 7 * j)) (g (11 + 2 * j)) v1)) (26 + 7 * j) (putF 16 ((upA a (25 + 7 * j) (putF 16 (a (25 + 7 * j)) (g (11 + 2 * j)) v1)) (26 + 7 * j)) (g (11 + 2 * j)) (t_X10_placesOf g (upA a (25 + 7 * j) (putF 16 (a (25 + 7 * j)) (g (11 + 2 * j)) v1)) v1))) (27 + 7 * j)) (3 * (g (11 + 2 * j))) v2)) (27 + 7 * j) (putF 48 ((upA (upA (upA a (25 + 7 * j) (putF 16 (a (25 + 7 * j)) (g (11 + 2 * j)) v1)) (26 + 7 * j) (putF 16 ((upA a (25 + 7 * j) (putF 16 (a (25 + 7 * j)) (g (11 + 2 * j)) v1)) (26 + 7 * j)) (g (11 + 2 * j)) (t_X10_placesOf g (upA a (25 + 7 * j) (putF 16 (a (25 + 7 * j)) (g (11 + 2 * j)) v1)) v1))) (27 + 7 * j) (putF 48 ((upA (upA a (25 + 7 * j) (putF 16 (a (25 + 7 * j)) (g (11 + 2 * j)) v1)) (26 + 7 * j) (putF 16 ((upA a (25 + 7 * j) (putF 16 (a (25 + 7 * j)) (g (11 + 2 * j)) v1)) (26 + 7 * j)) (g (11 + 2 * j)) (t_X10_placesOf g (upA a (25 + 7 * j) (putF 16 (a (25 + 7 * j)) (g (11 + 2 * j)) v1)) v1))) (27 + 7 * j)) (3 * (g (11 + 2 * j))) v2)) (27 + 7 * j)) ((3 * (g (11 + 2 * j))) + 1) v3)) (27 + 7 * j) (putF 48 ((upA (upA (upA (upA a (25 + 7 * j) (putF 16 (a (25 + 7 * j)) (g (11 + 2 * j)) v1)) (26 + 7 * j) (putF 16 ((upA a (25 + 7 * j) (putF 16 (a (25 + 7 * j)) (g (11 + 2 * j)) v1)) (26 + 7 * j)) (g (11 + 2 * j)) (t_X10_placesOf g (upA a (25 + 7 * j) (putF 16 (a (25 + 7 * j)) (g (11 + 2 * j)) v1)) v1))) (27 + 7 * j) (putF 48 ((upA (upA a (25 + 7 * j) (putF 16 (a (25 + 7 * j)) (g (11 + 2 * j)) v1)) (26 + 7 * j) (putF 16 ((upA a (25 + 7 * j) (putF 16 (a (25 + 7 * j)) (g (11 + 2 * j)) v1)) (26 + 7 * j)) (g (11 + 2 * j)) (t_X10_placesOf g (upA a (25 + 7 * j) (putF 16 (a (25 + 7 * j)) (g (11 + 2 * j)) v1)) v1))) (27 + 7 * j)) (3 * (g (11 + 2 * j))) v2)) (27 + 7 * j) (putF 48 ((upA (upA (upA a (25 + 7 * j) (putF 16 (a (25 + 7 * j)) (g (11 + 2 * j)) v1)) (26 + 7 * j) (putF 16 ((upA a (25 + 7 * j) (putF 16 (a (25 + 7 * j)) (g (11 + 2 * j)) v1)) (26 + 7 * j)) (g (11 + 2 * j)) (t_X10_placesOf g (upA a (25 + 7 * j) (putF 16 (a (25 + 7 * j)) (g (11 + 2 * j)) v1)) v1))) (27 + 7 * j) (putF 48 ((upA (upA a (25 + 7 * j) (putF 16 (a (25 + 7 * j)) (g (11 + 2 * j)) v1)) (26 + 7 * j) (putF 16 ((upA a (25 + 7 * j) (putF 16 (a (25 + 7 * j)) (g (11 + 2 * j)) v1)) (26 + 7 * j)) (g (11 + 2 * j)) (t_X10_placesOf g (upA a (25 + 7 * j) (putF 16 (a (25 + 7 * j)) (g (11 + 2 * j)) v1)) v1))) (27 + 7 * j)) (3 * (g (11 + 2 * j))) v2)) (27 + 7 * j)) ((3 * (g (11 + 2 * j))) + 1) v3)) (27 + 7 * j)) ((3 * (g (11 + 2 * j))) + 2) v4)) (28 + 7 * j) (putF 16 ((upA (upA (upA (upA (upA a (25 + 7 * j) (putF 16 (a (25 + 7 * j)) (g (11 + 2 * j)) v1)) (26 + 7 * j) (putF 16 ((upA a (25 + 7 * j) (putF 16 (a (25 + 7 * j)) (g (11 + 2 * j)) v1)) (26 + 7 * j)) (g (11 + 2 * j)) (t_X10_placesOf g (upA a (25 + 7 * j) (putF 16 (a (25 + 7 * j)) (g (11 + 2 * j)) v1)) v1))) (27 + 7 * j) (putF 48 ((upA (upA a (25 + 7 * j) (putF 16 (a (25 + 7 * j)) (g (11 + 2 * j)) v1)) (26 + 7 * j) (putF 16 ((upA a (25 + 7 * j) (putF 16 (a (25 + 7 * j)) (g (11 + 2 * j)) v1)) (26 + 7 * j)) (g (11 + 2 * j)) (t_X10_placesOf g (upA a (25 + 7 * j) (putF 16 (a (25 + 7 * j)) (g (11 + 2 * j)) v1)) v1))) (27 + 7 * j)) (3 * (g (11 + 2 * j))) v2)) (27 + 7 * j) (putF 48 ((upA (upA (upA a (25 + 7 * j) (putF 16 (a (25 + 7 * j)) (g (11 + 2 * j)) v1)) (26 + 7 * j) (putF 16 ((upA a (25 + 7 * j) (putF 16 (a (25 + 7 * j)) (g (11 + 2 * j)) v1)) (26 + 7 * j)) (g (11 + 2 * j)) (t_X10_placesOf g (upA a (25 + 7 * j) (putF 16 (a (25 + 7 * j)) (g (11 + 2 * j)) v1)) v1))) (27 + 7 * j) (putF 48 ((upA (upA a (25 + 7 * j) (putF 16 (a (25 + 7 * j)) (g (11 + 2 * j)) v1)) (26 + 7 * j) (putF 16 ((upA a (25 + 7 * j) (putF 16 (a (25 + 7 * j)) (g (11 + 2 * j)) v1)) (26 + 7 * j)) (g (11 + 2 * j)) (t_X10_placesOf g (upA a (25 + 7 * j) (putF 16 (a (25 + 7 * j)) (g (11 + 2 * j)) v1)) v1))) (27 + 7 * j)) (3 * (g (11 + 2 * j))) v2)) (27 + 7 * j)) ((3 * (g (11 + 2 * j))) + 1) v3)) (27 + 7 * j) (putF 48 ((upA (upA (upA (upA a (25 + 7 * j) (putF 16 (a (25 + 7 * j)) (g (11 + 2 * j)) v1)) (26 + 7 * j) (putF 16 ((upA a (25 + 7 * j) (putF 16 (a (25 + 7 * j)) (g (11 + 2 * j)) v1)) (26 + 7 * j)) (g (11 + 2 * j)) (t_X10_placesOf g (upA a (25 + 7 * j) (putF 16 (a (25 + 7 * j)) (g (11 + 2 * j)) v1)) v1))) (27 + 7 * j) (putF 48 ((upA (upA a (25 + 7 * j) (putF 16 (a (25 + 7 * j)) (g (11 + 2 * j)) v1)) (26 + 7 * j) (putF 16 ((upA a (25 + 7 * j) (putF 16 (a (25 + 7 * j)) (g (11 + 2 * j)) v1)) (26 + 7 * j)) (g (11 + 2 * j)) (t_X10_placesOf g (upA a (25 + 7 * j) (putF 16 (a (25 + 7 * j)) (g (11 + 2 * j)) v1)) v1))) (27 + 7 * j)) (3 * (g (11 + 2 * j))) v2)) (27 + 7 * j) (putF 48 ((upA (upA (upA a (25 + 7 * j) (putF 16 (a (25 + 7 * j)) (g (11 + 2 * j)) v1)) (26 + 7 * j) (putF 16 ((upA a (25 + 7 * j) (putF 16 (a (25 + 7 * j)) (g (11 + 2 * j)) v1)) (26 + 7 * j)) (g (11 + 2 * j)) (t_X10_placesOf g (upA a (25 + 7 * j) (putF 16 (a (25 + 7 * j)) (g (11 + 2 * j)) v1)) v1))) (27 + 7 * j) (putF 48 ((upA (upA a (25 + 7 * j) (putF 16 (a (25 + 7 * j)) (g (11 + 2 * j)) v1)) (26 + 7 * j) (putF 16 ((upA a (25 + 7 * j) (putF 16 (a (25 + 7 * j)) (g (11 + 2 * j)) v1)) (26 + 7 * j)) (g (11 + 2 * j)) (t_X10_placesOf g (upA a (25 + 7 * j) (putF 16 (a (25 + 7 * j)) (g (11 + 2 * j)) v1)) v1))) (27 + 7 * j)) (3 * (g (11 + 2 * j))) v2)) (27 + 7 * j)) ((3 * (g (11 + 2 * j))) + 1) v3)) (27 + 7 * j)) ((3 * (g (11 + 2 * j))) + 2) v4)) (28 + 7 * j)) (g (11 + 2 * j)) u1)) j hj ((g (11 + 2 * j)) + 1)) hP
  exact xv_retS (fw := (fun r => wX E r.1 r.2)) hx hb hr hlocks (Option.some.inj hf) hP hS dX2_add_107
def f_X1_takesVariable (g : xG) (a : xA) (v1 : Int32) : Option (Int32 × xG × xA) := (if (t_X9_isVariable g a v1) = 0 then some (0, g, a) else (if (t_X10_placesOf (upd g 10 ((g 10) + 1)) (upA a 23 (putF 3 (a 23) (g 10) (v1 - 97))) ((upd g 10 ((g 10) + 1)) 9)) ≤ ((upd g 10 ((g 10) + 1)) 10) then Option.bind (f_X2_add 0 (upd g 10 ((g 10) + 1)) (upA a 23 (putF 3 (a 23) (g 10) (v1 - 97))) ((upd g 10 ((g 10) + 1)) 9) (atF 3 ((upA a 23 (putF 3 (a 23) (g 10) (v1 - 97))) 23) 0) (atF 3 ((upA a 23 (putF 3 (a 23) (g 10) (v1 - 97))) 23) 1) (atF 3 ((upA a 23 (putF 3 (a 23) (g 10) (v1 - 97))) 23) 2)) (fun u3 => (if (u3.1 9) = 8 then some (1, (upd u3.1 8 7), u3.2) else some (1, (upd u3.1 8 6), u3.2))) else some (1, (upd (upd g 10 ((g 10) + 1)) 8 5), (upA a 23 (putF 3 (a 23) (g 10) (v1 - 97))))))
set_option maxRecDepth 100000 in
set_option maxHeartbeats 40000000 in
theorem c_X1_takesVariable (l : Launch) (E : xE) (g : xG) (a : xA) (v1 : Int32) {res : Int32 × xG × xA} (hf : f_X1_takesVariable g a v1 = some res) : xM l E yX1_takesVariable cX1_takesVariable 2 (some .boolean) 4 90 [.ref (E.2.1 21), .int v1] (wX E g a) (xQi E res.1 (wX E res.2.1 res.2.2)) := by
  unfold f_X1_takesVariable at hf
  refine xM_of (by decide) (Nat.le_of_ble_eq_true rfl) ?_
  intro p e s m below meth c A hx hb hr hml hts hown hlocks hA hD hP hK hN hS ls hl
  have hw : ∀ w ∈ BW, w.before _ s = true := fun w h => hts w (List.mem_cons_of_mem _ h)
  have C0 : xCtx E p m c cX1_takesVariable 2 s _ RX1 A yX1_takesVariable cX1_takesVariable 2 (some .boolean) := ⟨hx, hb, hml, hown, hts, hA, hK, hN⟩
  have hl : lv_has ls 2 [(0, .ref (E.2.1 21)), (1, .int v1)] := hl
  refine lv_iload_n hx hb dX1_takesVariable_0 rfl (lv_at hl 1 rfl) ?_
  refine xci (xRunS (rest := []) (As := [.int v1]) (k := 1) C0 (c_X9_isVariable l E g a v1) bw95 bw101 bw103 bw102 hd_X9_isVariable ⟨Nat.le_of_ble_eq_true rfl, Nat.le_of_ble_eq_true rfl⟩ hP (wX_D hD) hS rfl hl.1 rfl (Nat.le_of_ble_eq_true rfl) dX1_takesVariable_1 ⟨Nat.zero_le _, Nat.zero_le _⟩) hS (fun H locs hP hS => ?_)
  refine lv_if_ne (tgt := 9) hx hb dX1_takesVariable_4 (by decide) (fun c1 => ?_) (fun c1 => ?_)
  · replace hf := (if_neg c1).symm.trans hf
    refine lv_aload_n hx hb dX1_takesVariable_9 rfl (lv_at hl 0 rfl) ?_
    refine va_get (C := RX1) (T := TX1) (N := 9) hx hb hw bfX10 hown hK hP 21 (gx_21 E g a) rfl 8 (by decide) (hw _ bw81) (fun _ h9 => h9) rfl dX1_takesVariable_10 ?_
    refine lv_aload_n hx hb dX1_takesVariable_13 rfl (lv_at hl 0 rfl) ?_
    refine va_get (C := RX1) (T := TX1) (N := 9) hx hb hw bfX10 hown hK hP 21 (gx_21 E g a) rfl 7 (by decide) (hw _ bw110) (fun _ h9 => h9) rfl dX1_takesVariable_14 ?_
    refine lv_iload_n hx hb dX1_takesVariable_17 rfl (lv_at hl 1 rfl) ?_
    refine lv_bipush (v := 97) hx hb dX1_takesVariable_18 (by decide) ?_
    refine lv_isub hx hb dX1_takesVariable_20 ?_
    refine xcv (xRunN (rest := []) (As := [.ref (E.2.1 23), .int (g 10), .int (v1 - 97)]) (k := 3) C0 (c_put l E (wX E g a) 23 (g 10) (v1 - 97) (gx_23 E g a) (Nat.le_of_ble_eq_true rfl) (sx_a23 E g a (putF 3 (a 23) (g 10) (v1 - 97)))) bw14 nw6 bw13 bw23 hd_X11_put ⟨Nat.le_of_ble_eq_true rfl, Nat.le_of_ble_eq_true rfl⟩ hP (wX_D hD) hS rfl hl.1 rfl (Nat.le_of_ble_eq_true rfl) dX1_takesVariable_21 ⟨Nat.zero_le _, Nat.zero_le _⟩) hS (fun H locs hP hS => ?_)
    refine lv_aload_n hx hb dX1_takesVariable_24 rfl (lv_at hl 0 rfl) ?_
    refine lv_dup hx hb dX1_takesVariable_25 rfl ?_
    refine va_get (C := RX1) (T := TX1) (N := 9) hx hb hw bfX10 hown hK hP 21 (gx_21 E g (upA a 23 (putF 3 (a 23) (g 10) (v1 - 97)))) rfl 7 (by decide) (hw _ bw110) (fun _ h9 => h9) rfl dX1_takesVariable_26 ?_
    refine lv_iconst (v := 1) hx hb dX1_takesVariable_29 (by decide) ?_
    refine lv_iadd hx hb dX1_takesVariable_30 ?_
    refine va_put (v := .int ((g 10) + 1)) (ty := .int) (C := RX1) (T := TX1) (N := 9) hx hb hw bfX10 tyX1 tyX1_ok nmX1 hown hK hP (wX_D hD) hS 21 (gx_21 E g (upA a 23 (putF 3 (a 23) (g 10) (v1 - 97)))) rfl 7 (by decide) (hw _ bw110) (fun _ h9 => h9) rfl (by decide +kernel) rfl rfl (Nat.le_of_ble_eq_true rfl) dX1_takesVariable_31 (fun H locs hP _ hS => ?_)
    have hP := xP_eq (sx_g10 E g (upA a 23 (putF 3 (a 23) (g 10) (v1 - 97))) ((g 10) + 1)) hP
    refine lv_aload_n hx hb dX1_takesVariable_34 rfl (lv_at hl 0 rfl) ?_
    refine va_get (C := RX1) (T := TX1) (N := 9) hx hb hw bfX10 hown hK hP 21 (gx_21 E (upd g 10 ((g 10) + 1)) (upA a 23 (putF 3 (a 23) (g 10) (v1 - 97)))) rfl 7 (by decide) (hw _ bw110) (fun _ h9 => h9) rfl dX1_takesVariable_35 ?_
    refine lv_aload_n hx hb dX1_takesVariable_38 rfl (lv_at hl 0 rfl) ?_
    refine va_get (C := RX1) (T := TX1) (N := 9) hx hb hw bfX10 hown hK hP 21 (gx_21 E (upd g 10 ((g 10) + 1)) (upA a 23 (putF 3 (a 23) (g 10) (v1 - 97)))) rfl 2 (by decide) (hw _ bw83) (fun _ h9 => h9) rfl dX1_takesVariable_39 ?_
    refine lv_aload_n hx hb dX1_takesVariable_42 rfl (lv_at hl 0 rfl) ?_
    refine va_get (C := RX1) (T := TX1) (N := 9) hx hb hw bfX10 hown hK hP 21 (gx_21 E (upd g 10 ((g 10) + 1)) (upA a 23 (putF 3 (a 23) (g 10) (v1 - 97)))) rfl 6 (by decide) (hw _ bw111) (fun _ h9 => h9) rfl dX1_takesVariable_43 ?_
    refine xci (xRunV (rest := [.int ((upd g 10 ((g 10) + 1)) 10)]) (As := [.int ((upd g 10 ((g 10) + 1)) 9)]) (C := RX10) (k := 1) C0 (c_X10_placesOf l E (upd g 10 ((g 10) + 1)) (upA a 23 (putF 3 (a 23) (g 10) (v1 - 97))) ((upd g 10 ((g 10) + 1)) 9)) bw117 bw139 bw115 bw133 bw134 hd_X10_placesOf ⟨Nat.le_of_ble_eq_true rfl, Nat.le_of_ble_eq_true rfl⟩ hP (wX_D hD) hS (va_recv hK hP (ci := 10) rfl (gx_4 E (upd g 10 ((g 10) + 1)) (upA a 23 (putF 3 (a 23) (g 10) (v1 - 97))))) rfl hl.1 rfl (Nat.le_of_ble_eq_true rfl) dX1_takesVariable_46 ⟨Nat.zero_le _, Nat.zero_le _⟩) hS (fun H locs hP hS => ?_)
    refine lv_icmp_ge (tgt := 60) hx hb dX1_takesVariable_49 (by decide) (fun c2 => ?_) (fun c2 => ?_)
    · replace hf := (if_pos c2).symm.trans hf
      refine lv_aload_n hx hb dX1_takesVariable_60 rfl (lv_at hl 0 rfl) ?_
      refine va_get (C := RX1) (T := TX1) (N := 9) hx hb hw bfX10 hown hK hP 21 (gx_21 E (upd g 10 ((g 10) + 1)) (upA a 23 (putF 3 (a 23) (g 10) (v1 - 97)))) rfl 3 (by decide) (hw _ bw87) (fun _ h9 => h9) rfl dX1_takesVariable_61 ?_
      refine lv_aload_n hx hb dX1_takesVariable_64 rfl (lv_at hl 0 rfl) ?_
      refine va_get (C := RX1) (T := TX1) (N := 9) hx hb hw bfX10 hown hK hP 21 (gx_21 E (upd g 10 ((g 10) + 1)) (upA a 23 (putF 3 (a 23) (g 10) (v1 - 97)))) rfl 6 (by decide) (hw _ bw111) (fun _ h9 => h9) rfl dX1_takesVariable_65 ?_
      refine lv_aload_n hx hb dX1_takesVariable_68 rfl (lv_at hl 0 rfl) ?_
      refine va_get (C := RX1) (T := TX1) (N := 9) hx hb hw bfX10 hown hK hP 21 (gx_21 E (upd g 10 ((g 10) + 1)) (upA a 23 (putF 3 (a 23) (g 10) (v1 - 97)))) rfl 8 (by decide) (hw _ bw81) (fun _ h9 => h9) rfl dX1_takesVariable_69 ?_
      refine lv_iconst (v := 0) hx hb dX1_takesVariable_72 (by decide) ?_
      refine xci (xRunN (rest := [.int ((upd g 10 ((g 10) + 1)) 9), .ref (E.2.1 24)]) (As := [.ref (E.2.1 23), .int 0]) (k := 2) C0 (c_at l E (wX E (upd g 10 ((g 10) + 1)) (upA a 23 (putF 3 (a 23) (g 10) (v1 - 97)))) 23 0 (gx_23 E (upd g 10 ((g 10) + 1)) (upA a 23 (putF 3 (a 23) (g 10) (v1 - 97)))) (Nat.le_of_ble_eq_true rfl)) bw9 nw5 bw13 bw12 hd_X11_at ⟨Nat.le_of_ble_eq_true rfl, Nat.le_of_ble_eq_true rfl⟩ hP (wX_D hD) hS rfl hl.1 rfl (Nat.le_of_ble_eq_true rfl) dX1_takesVariable_73 ⟨Nat.zero_le _, Nat.zero_le _⟩) hS (fun H locs hP hS => ?_)
      refine lv_aload_n hx hb dX1_takesVariable_76 rfl (lv_at hl 0 rfl) ?_
      refine va_get (C := RX1) (T := TX1) (N := 9) hx hb hw bfX10 hown hK hP 21 (gx_21 E (upd g 10 ((g 10) + 1)) (upA a 23 (putF 3 (a 23) (g 10) (v1 - 97)))) rfl 8 (by decide) (hw _ bw81) (fun _ h9 => h9) rfl dX1_takesVariable_77 ?_
      refine lv_iconst (v := 1) hx hb dX1_takesVariable_80 (by decide) ?_
      refine xci (xRunN (rest := [.int (atF 3 ((upA a 23 (putF 3 (a 23) (g 10) (v1 - 97))) 23) 0), .int ((upd g 10 ((g 10) + 1)) 9), .ref (E.2.1 24)]) (As := [.ref (E.2.1 23), .int 1]) (k := 2) C0 (c_at l E (wX E (upd g 10 ((g 10) + 1)) (upA a 23 (putF 3 (a 23) (g 10) (v1 - 97)))) 23 1 (gx_23 E (upd g 10 ((g 10) + 1)) (upA a 23 (putF 3 (a 23) (g 10) (v1 - 97)))) (Nat.le_of_ble_eq_true rfl)) bw9 nw5 bw13 bw12 hd_X11_at ⟨Nat.le_of_ble_eq_true rfl, Nat.le_of_ble_eq_true rfl⟩ hP (wX_D hD) hS rfl hl.1 rfl (Nat.le_of_ble_eq_true rfl) dX1_takesVariable_81 ⟨Nat.zero_le _, Nat.zero_le _⟩) hS (fun H locs hP hS => ?_)
      refine lv_aload_n hx hb dX1_takesVariable_84 rfl (lv_at hl 0 rfl) ?_
      refine va_get (C := RX1) (T := TX1) (N := 9) hx hb hw bfX10 hown hK hP 21 (gx_21 E (upd g 10 ((g 10) + 1)) (upA a 23 (putF 3 (a 23) (g 10) (v1 - 97)))) rfl 8 (by decide) (hw _ bw81) (fun _ h9 => h9) rfl dX1_takesVariable_85 ?_
      refine lv_iconst (v := 2) hx hb dX1_takesVariable_88 (by decide) ?_
      refine xci (xRunN (rest := [.int (atF 3 ((upA a 23 (putF 3 (a 23) (g 10) (v1 - 97))) 23) 1), .int (atF 3 ((upA a 23 (putF 3 (a 23) (g 10) (v1 - 97))) 23) 0), .int ((upd g 10 ((g 10) + 1)) 9), .ref (E.2.1 24)]) (As := [.ref (E.2.1 23), .int 2]) (k := 2) C0 (c_at l E (wX E (upd g 10 ((g 10) + 1)) (upA a 23 (putF 3 (a 23) (g 10) (v1 - 97)))) 23 2 (gx_23 E (upd g 10 ((g 10) + 1)) (upA a 23 (putF 3 (a 23) (g 10) (v1 - 97)))) (Nat.le_of_ble_eq_true rfl)) bw9 nw5 bw13 bw12 hd_X11_at ⟨Nat.le_of_ble_eq_true rfl, Nat.le_of_ble_eq_true rfl⟩ hP (wX_D hD) hS rfl hl.1 rfl (Nat.le_of_ble_eq_true rfl) dX1_takesVariable_89 ⟨Nat.zero_le _, Nat.zero_le _⟩) hS (fun H locs hP hS => ?_)
      obtain ⟨u3, e4, hf⟩ := bd_some hf
      refine xcv (xRunV (rest := []) (As := [.int ((upd g 10 ((g 10) + 1)) 9), .int (atF 3 ((upA a 23 (putF 3 (a 23) (g 10) (v1 - 97))) 23) 0), .int (atF 3 ((upA a 23 (putF 3 (a 23) (g 10) (v1 - 97))) 23) 1), .int (atF 3 ((upA a 23 (putF 3 (a 23) (g 10) (v1 - 97))) 23) 2)]) (C := RX2) (k := 4) C0 (c_X2_add l E 0 (by decide) (upd g 10 ((g 10) + 1)) (upA a 23 (putF 3 (a 23) (g 10) (v1 - 97))) ((upd g 10 ((g 10) + 1)) 9) (atF 3 ((upA a 23 (putF 3 (a 23) (g 10) (v1 - 97))) 23) 0) (atF 3 ((upA a 23 (putF 3 (a 23) (g 10) (v1 - 97))) 23) 1) (atF 3 ((upA a 23 (putF 3 (a 23) (g 10) (v1 - 97))) 23) 2) e4) bw138 bw140 bw86 bw141 bw142 hd_X2_add ⟨Nat.le_of_ble_eq_true rfl, Nat.le_of_ble_eq_true rfl⟩ hP (wX_D hD) hS (va_recv hK hP (ci := 2) rfl (gx_24 E (upd g 10 ((g 10) + 1)) (upA a 23 (putF 3 (a 23) (g 10) (v1 - 97))))) rfl hl.1 rfl (Nat.le_of_ble_eq_true rfl) dX1_takesVariable_92 ⟨Nat.zero_le _, Nat.zero_le _⟩) hS (fun H locs hP hS => ?_)
      refine lv_aload_n hx hb dX1_takesVariable_95 rfl (lv_at hl 0 rfl) ?_
      refine lv_aload_n hx hb dX1_takesVariable_96 rfl (lv_at hl 0 rfl) ?_
      refine va_get (C := RX1) (T := TX1) (N := 9) hx hb hw bfX10 hown hK hP 21 (gx_21 E u3.1 u3.2) rfl 6 (by decide) (hw _ bw111) (fun _ h9 => h9) rfl dX1_takesVariable_97 ?_
      refine lv_bipush (v := 8) hx hb dX1_takesVariable_100 (by decide) ?_
      refine lv_icmp_ne (tgt := 110) hx hb dX1_takesVariable_102 (by decide) (fun c5 => ?_) (fun c5 => ?_)
      · replace hf := (if_neg c5).symm.trans hf
        refine lv_bipush (v := 6) hx hb dX1_takesVariable_110 (by decide) ?_
        refine va_put (v := .int 6) (ty := .int) (C := RX1) (T := TX1) (N := 9) hx hb hw bfX10 tyX1 tyX1_ok nmX1 hown hK hP (wX_D hD) hS 21 (gx_21 E u3.1 u3.2) rfl 5 (by decide) (hw _ bw99) (fun _ h9 => h9) rfl (by decide +kernel) rfl rfl (Nat.le_of_ble_eq_true rfl) dX1_takesVariable_112 (fun H locs hP _ hS => ?_)
        have hP := xP_eq (sx_g8 E u3.1 u3.2 6) hP
        refine lv_iconst (v := 1) hx hb dX1_takesVariable_115 (by decide) ?_
        exact xz_retS (fr := (fun r => r.1)) (fw := (fun r => wX E r.2.1 r.2.2)) hx hb hr hlocks (Option.some.inj hf) nz1 hP hS dX1_takesVariable_116
      · replace hf := (if_pos c5).symm.trans hf
        refine lv_bipush (v := 7) hx hb dX1_takesVariable_105 (by decide) ?_
        refine lv_goto (tgt := 112) hx hb dX1_takesVariable_107 (by decide) ?_
        refine va_put (v := .int 7) (ty := .int) (C := RX1) (T := TX1) (N := 9) hx hb hw bfX10 tyX1 tyX1_ok nmX1 hown hK hP (wX_D hD) hS 21 (gx_21 E u3.1 u3.2) rfl 5 (by decide) (hw _ bw99) (fun _ h9 => h9) rfl (by decide +kernel) rfl rfl (Nat.le_of_ble_eq_true rfl) dX1_takesVariable_112 (fun H locs hP _ hS => ?_)
        have hP := xP_eq (sx_g8 E u3.1 u3.2 7) hP
        refine lv_iconst (v := 1) hx hb dX1_takesVariable_115 (by decide) ?_
        exact xz_retS (fr := (fun r => r.1)) (fw := (fun r => wX E r.2.1 r.2.2)) hx hb hr hlocks (Option.some.inj hf) nz1 hP hS dX1_takesVariable_116
    · replace hf := (if_neg c2).symm.trans hf
      refine lv_aload_n hx hb dX1_takesVariable_52 rfl (lv_at hl 0 rfl) ?_
      refine lv_iconst (v := 5) hx hb dX1_takesVariable_53 (by decide) ?_
      refine va_put (v := .int 5) (ty := .int) (C := RX1) (T := TX1) (N := 9) hx hb hw bfX10 tyX1 tyX1_ok nmX1 hown hK hP (wX_D hD) hS 21 (gx_21 E (upd g 10 ((g 10) + 1)) (upA a 23 (putF 3 (a 23) (g 10) (v1 - 97)))) rfl 5 (by decide) (hw _ bw99) (fun _ h9 => h9) rfl (by decide +kernel) rfl rfl (Nat.le_of_ble_eq_true rfl) dX1_takesVariable_54 (fun H locs hP _ hS => ?_)
      have hP := xP_eq (sx_g8 E (upd g 10 ((g 10) + 1)) (upA a 23 (putF 3 (a 23) (g 10) (v1 - 97))) 5) hP
      refine lv_goto (tgt := 115) hx hb dX1_takesVariable_57 (by decide) ?_
      refine lv_iconst (v := 1) hx hb dX1_takesVariable_115 (by decide) ?_
      exact xz_retS (fr := (fun r => r.1)) (fw := (fun r => wX E r.2.1 r.2.2)) hx hb hr hlocks (Option.some.inj hf) nz1 hP hS dX1_takesVariable_116
  · replace hf := (if_pos c1).symm.trans hf
    refine lv_iconst (v := 0) hx hb dX1_takesVariable_7 (by decide) ?_
    exact xz_retS (fr := (fun r => r.1)) (fw := (fun r => wX E r.2.1 r.2.2)) hx hb hr hlocks (Option.some.inj hf) nz0 hP hS dX1_takesVariable_8
def f_X1_takes (g : xG) (a : xA) (v1 : Int32) : Option (Int32 × xG × xA) := (if (g 8) = 0 then Option.bind (f_X1_takesInHead g a v1) (fun u2 => ck (boB u2.1) (some (u2.1, u2.2.1, u2.2.2))) else (if (g 8) = 1 then Option.bind (f_X1_takesAtBeginningOfAtom g a v1) (fun u6 => ck (boB u6.1) (some (u6.1, u6.2.1, u6.2.2))) else (if (g 8) = 2 then ck (boB (t_X1_takesJust g a 61 v1 4).1) (some ((t_X1_takesJust g a 61 v1 4).1, (t_X1_takesJust g a 61 v1 4).2, a)) else (if (g 8) = 3 then ck (boB (t_X1_takesJust g a 40 v1 4).1) (some ((t_X1_takesJust g a 40 v1 4).1, (t_X1_takesJust g a 40 v1 4).2, a)) else (if (g 8) = 4 then Option.bind (f_X1_takesVariable g a v1) (fun u14 => ck (boB u14.1) (some (u14.1, u14.2.1, u14.2.2))) else (if (g 8) = 5 then ck (boB (t_X1_takesJust g a 44 v1 4).1) (some ((t_X1_takesJust g a 44 v1 4).1, (t_X1_takesJust g a 44 v1 4).2, a)) else (if (g 8) = 6 then ck (boB (t_X1_takesJust g a 41 v1 7).1) (some ((t_X1_takesJust g a 41 v1 7).1, (t_X1_takesJust g a 41 v1 7).2, a)) else ck (boB (t_X1_takesJust g a 38 v1 1).1) (some ((t_X1_takesJust g a 38 v1 1).1, (t_X1_takesJust g a 38 v1 1).2, a)))))))))
set_option maxRecDepth 100000 in
set_option maxHeartbeats 40000000 in
theorem c_X1_takes (l : Launch) (E : xE) (g : xG) (a : xA) (v1 : Int32) {res : Int32 × xG × xA} (hf : f_X1_takes g a v1 = some res) : xM l E yX1_takes cX1_takes 2 (some .boolean) 5 111 [.ref (E.2.1 21), .int v1] (wX E g a) (xQi E res.1 (wX E res.2.1 res.2.2)) := by
  unfold f_X1_takes at hf
  refine xM_of (by decide) (Nat.le_of_ble_eq_true rfl) ?_
  intro p e s m below meth c A hx hb hr hml hts hown hlocks hA hD hP hK hN hS ls hl
  have hw : ∀ w ∈ BW, w.before _ s = true := fun w h => hts w (List.mem_cons_of_mem _ h)
  have C0 : xCtx E p m c cX1_takes 2 s _ RX1 A yX1_takes cX1_takes 2 (some .boolean) := ⟨hx, hb, hml, hown, hts, hA, hK, hN⟩
  have hl : lv_has ls 2 [(0, .ref (E.2.1 21)), (1, .int v1)] := hl
  refine lv_aload_n hx hb dX1_takes_0 rfl (lv_at hl 0 rfl) ?_
  refine va_get (C := RX1) (T := TX1) (N := 9) hx hb hw bfX10 hown hK hP 21 (gx_21 E g a) rfl 5 (by decide) (hw _ bw99) (fun _ h9 => h9) rfl dX1_takes_1 ?_
  by_cases c1 : (g 8) = 0
  · replace hf := (if_pos c1).symm.trans hf
    refine lv_tableIn (tgt := 48) (off := 44) hx hb dX1_takes_4 (by rw [c1]; decide) (by rw [c1]; decide) (by rw [c1]; rfl) (by decide) ?_
    refine lv_aload_n hx hb dX1_takes_48 rfl (lv_at hl 0 rfl) ?_
    refine lv_iload_n hx hb dX1_takes_49 rfl (lv_at hl 1 rfl) ?_
    obtain ⟨u2, e3, hf⟩ := bd_some hf
    refine xci (xRunV (rest := []) (As := [.int v1]) (C := RX1) (k := 1) C0 (c_X1_takesInHead l E g a v1 e3) bw98 bw144 bw147 bw145 bw146 hd_X1_takesInHead ⟨Nat.le_of_ble_eq_true rfl, Nat.le_of_ble_eq_true rfl⟩ hP (wX_D hD) hS (va_recv hK hP (ci := 1) rfl (gx_21 E g a)) rfl hl.1 rfl (Nat.le_of_ble_eq_true rfl) dX1_takes_50 ⟨Nat.zero_le _, Nat.zero_le _⟩) hS (fun H locs hP hS => ?_)
    obtain ⟨k4, hf⟩ := ck_some hf
    exact xz_retS (fr := (fun r => r.1)) (fw := (fun r => wX E r.2.1 r.2.2)) hx hb hr hlocks (Option.some.inj hf) (boB_bo k4) hP hS dX1_takes_53
  · replace hf := (if_neg c1).symm.trans hf
    by_cases c5 : (g 8) = 1
    · replace hf := (if_pos c5).symm.trans hf
      refine lv_tableIn (tgt := 54) (off := 50) hx hb dX1_takes_4 (by rw [c5]; decide) (by rw [c5]; decide) (by rw [c5]; rfl) (by decide) ?_
      refine lv_aload_n hx hb dX1_takes_54 rfl (lv_at hl 0 rfl) ?_
      refine lv_iload_n hx hb dX1_takes_55 rfl (lv_at hl 1 rfl) ?_
      obtain ⟨u6, e7, hf⟩ := bd_some hf
      refine xci (xRunV (rest := []) (As := [.int v1]) (C := RX1) (k := 1) C0 (c_X1_takesAtBeginningOfAtom l E g a v1 e7) bw109 bw148 bw147 bw149 bw150 hd_X1_takesAtBeginningOfAtom ⟨Nat.le_of_ble_eq_true rfl, Nat.le_of_ble_eq_true rfl⟩ hP (wX_D hD) hS (va_recv hK hP (ci := 1) rfl (gx_21 E g a)) rfl hl.1 rfl (Nat.le_of_ble_eq_true rfl) dX1_takes_56 ⟨Nat.zero_le _, Nat.zero_le _⟩) hS (fun H locs hP hS => ?_)
      obtain ⟨k8, hf⟩ := ck_some hf
      exact xz_retS (fr := (fun r => r.1)) (fw := (fun r => wX E r.2.1 r.2.2)) hx hb hr hlocks (Option.some.inj hf) (boB_bo k8) hP hS dX1_takes_59
    · replace hf := (if_neg c5).symm.trans hf
      by_cases c9 : (g 8) = 2
      · replace hf := (if_pos c9).symm.trans hf
        refine lv_tableIn (tgt := 60) (off := 56) hx hb dX1_takes_4 (by rw [c9]; decide) (by rw [c9]; decide) (by rw [c9]; rfl) (by decide) ?_
        refine lv_aload_n hx hb dX1_takes_60 rfl (lv_at hl 0 rfl) ?_
        refine lv_bipush (v := 61) hx hb dX1_takes_61 (by decide) ?_
        refine lv_iload_n hx hb dX1_takes_63 rfl (lv_at hl 1 rfl) ?_
        refine lv_iconst (v := 4) hx hb dX1_takes_64 (by decide) ?_
        refine xci (xRunV (rest := []) (As := [.int 61, .int v1, .int 4]) (C := RX1) (k := 3) C0 (c_X1_takesJust l E g a 61 v1 4) bw116 bw151 bw147 bw152 bw153 hd_X1_takesJust ⟨Nat.le_of_ble_eq_true rfl, Nat.le_of_ble_eq_true rfl⟩ hP (wX_D hD) hS (va_recv hK hP (ci := 1) rfl (gx_21 E g a)) rfl hl.1 rfl (Nat.le_of_ble_eq_true rfl) dX1_takes_65 ⟨Nat.zero_le _, Nat.zero_le _⟩) hS (fun H locs hP hS => ?_)
        obtain ⟨k10, hf⟩ := ck_some hf
        exact xz_retS (fr := (fun r => r.1)) (fw := (fun r => wX E r.2.1 r.2.2)) hx hb hr hlocks (Option.some.inj hf) (boB_bo k10) hP hS dX1_takes_68
      · replace hf := (if_neg c9).symm.trans hf
        by_cases c11 : (g 8) = 3
        · replace hf := (if_pos c11).symm.trans hf
          refine lv_tableIn (tgt := 69) (off := 65) hx hb dX1_takes_4 (by rw [c11]; decide) (by rw [c11]; decide) (by rw [c11]; rfl) (by decide) ?_
          refine lv_aload_n hx hb dX1_takes_69 rfl (lv_at hl 0 rfl) ?_
          refine lv_bipush (v := 40) hx hb dX1_takes_70 (by decide) ?_
          refine lv_iload_n hx hb dX1_takes_72 rfl (lv_at hl 1 rfl) ?_
          refine lv_iconst (v := 4) hx hb dX1_takes_73 (by decide) ?_
          refine xci (xRunV (rest := []) (As := [.int 40, .int v1, .int 4]) (C := RX1) (k := 3) C0 (c_X1_takesJust l E g a 40 v1 4) bw116 bw151 bw147 bw152 bw153 hd_X1_takesJust ⟨Nat.le_of_ble_eq_true rfl, Nat.le_of_ble_eq_true rfl⟩ hP (wX_D hD) hS (va_recv hK hP (ci := 1) rfl (gx_21 E g a)) rfl hl.1 rfl (Nat.le_of_ble_eq_true rfl) dX1_takes_74 ⟨Nat.zero_le _, Nat.zero_le _⟩) hS (fun H locs hP hS => ?_)
          obtain ⟨k12, hf⟩ := ck_some hf
          exact xz_retS (fr := (fun r => r.1)) (fw := (fun r => wX E r.2.1 r.2.2)) hx hb hr hlocks (Option.some.inj hf) (boB_bo k12) hP hS dX1_takes_77
        · replace hf := (if_neg c11).symm.trans hf
          by_cases c13 : (g 8) = 4
          · replace hf := (if_pos c13).symm.trans hf
            refine lv_tableIn (tgt := 78) (off := 74) hx hb dX1_takes_4 (by rw [c13]; decide) (by rw [c13]; decide) (by rw [c13]; rfl) (by decide) ?_
            refine lv_aload_n hx hb dX1_takes_78 rfl (lv_at hl 0 rfl) ?_
            refine lv_iload_n hx hb dX1_takes_79 rfl (lv_at hl 1 rfl) ?_
            obtain ⟨u14, e15, hf⟩ := bd_some hf
            refine xci (xRunV (rest := []) (As := [.int v1]) (C := RX1) (k := 1) C0 (c_X1_takesVariable l E g a v1 e15) bw143 bw154 bw147 bw155 bw156 hd_X1_takesVariable ⟨Nat.le_of_ble_eq_true rfl, Nat.le_of_ble_eq_true rfl⟩ hP (wX_D hD) hS (va_recv hK hP (ci := 1) rfl (gx_21 E g a)) rfl hl.1 rfl (Nat.le_of_ble_eq_true rfl) dX1_takes_80 ⟨Nat.zero_le _, Nat.zero_le _⟩) hS (fun H locs hP hS => ?_)
            obtain ⟨k16, hf⟩ := ck_some hf
            exact xz_retS (fr := (fun r => r.1)) (fw := (fun r => wX E r.2.1 r.2.2)) hx hb hr hlocks (Option.some.inj hf) (boB_bo k16) hP hS dX1_takes_83
          · replace hf := (if_neg c13).symm.trans hf
            by_cases c17 : (g 8) = 5
            · replace hf := (if_pos c17).symm.trans hf
              refine lv_tableIn (tgt := 84) (off := 80) hx hb dX1_takes_4 (by rw [c17]; decide) (by rw [c17]; decide) (by rw [c17]; rfl) (by decide) ?_
              refine lv_aload_n hx hb dX1_takes_84 rfl (lv_at hl 0 rfl) ?_
              refine lv_bipush (v := 44) hx hb dX1_takes_85 (by decide) ?_
              refine lv_iload_n hx hb dX1_takes_87 rfl (lv_at hl 1 rfl) ?_
              refine lv_iconst (v := 4) hx hb dX1_takes_88 (by decide) ?_
              refine xci (xRunV (rest := []) (As := [.int 44, .int v1, .int 4]) (C := RX1) (k := 3) C0 (c_X1_takesJust l E g a 44 v1 4) bw116 bw151 bw147 bw152 bw153 hd_X1_takesJust ⟨Nat.le_of_ble_eq_true rfl, Nat.le_of_ble_eq_true rfl⟩ hP (wX_D hD) hS (va_recv hK hP (ci := 1) rfl (gx_21 E g a)) rfl hl.1 rfl (Nat.le_of_ble_eq_true rfl) dX1_takes_89 ⟨Nat.zero_le _, Nat.zero_le _⟩) hS (fun H locs hP hS => ?_)
              obtain ⟨k18, hf⟩ := ck_some hf
              exact xz_retS (fr := (fun r => r.1)) (fw := (fun r => wX E r.2.1 r.2.2)) hx hb hr hlocks (Option.some.inj hf) (boB_bo k18) hP hS dX1_takes_92
            · replace hf := (if_neg c17).symm.trans hf
              by_cases c19 : (g 8) = 6
              · replace hf := (if_pos c19).symm.trans hf
                refine lv_tableIn (tgt := 93) (off := 89) hx hb dX1_takes_4 (by rw [c19]; decide) (by rw [c19]; decide) (by rw [c19]; rfl) (by decide) ?_
                refine lv_aload_n hx hb dX1_takes_93 rfl (lv_at hl 0 rfl) ?_
                refine lv_bipush (v := 41) hx hb dX1_takes_94 (by decide) ?_
                refine lv_iload_n hx hb dX1_takes_96 rfl (lv_at hl 1 rfl) ?_
                refine lv_bipush (v := 7) hx hb dX1_takes_97 (by decide) ?_
                refine xci (xRunV (rest := []) (As := [.int 41, .int v1, .int 7]) (C := RX1) (k := 3) C0 (c_X1_takesJust l E g a 41 v1 7) bw116 bw151 bw147 bw152 bw153 hd_X1_takesJust ⟨Nat.le_of_ble_eq_true rfl, Nat.le_of_ble_eq_true rfl⟩ hP (wX_D hD) hS (va_recv hK hP (ci := 1) rfl (gx_21 E g a)) rfl hl.1 rfl (Nat.le_of_ble_eq_true rfl) dX1_takes_99 ⟨Nat.zero_le _, Nat.zero_le _⟩) hS (fun H locs hP hS => ?_)
                obtain ⟨k20, hf⟩ := ck_some hf
                exact xz_retS (fr := (fun r => r.1)) (fw := (fun r => wX E r.2.1 r.2.2)) hx hb hr hlocks (Option.some.inj hf) (boB_bo k20) hP hS dX1_takes_102
              · replace hf := (if_neg c19).symm.trans hf
                refine lv_tableOut (tgt := 103) hx hb dX1_takes_4 (by have h9 := tsw0 (x := (g 8)) 7 (by decide) (by intro i hi; match i, hi with | 0, _ => exact c1 | 1, _ => exact c5 | 2, _ => exact c9 | 3, _ => exact c11 | 4, _ => exact c13 | 5, _ => exact c17 | 6, _ => exact c19); omega) (by decide) ?_
                refine lv_aload_n hx hb dX1_takes_103 rfl (lv_at hl 0 rfl) ?_
                refine lv_bipush (v := 38) hx hb dX1_takes_104 (by decide) ?_
                refine lv_iload_n hx hb dX1_takes_106 rfl (lv_at hl 1 rfl) ?_
                refine lv_iconst (v := 1) hx hb dX1_takes_107 (by decide) ?_
                refine xci (xRunV (rest := []) (As := [.int 38, .int v1, .int 1]) (C := RX1) (k := 3) C0 (c_X1_takesJust l E g a 38 v1 1) bw116 bw151 bw147 bw152 bw153 hd_X1_takesJust ⟨Nat.le_of_ble_eq_true rfl, Nat.le_of_ble_eq_true rfl⟩ hP (wX_D hD) hS (va_recv hK hP (ci := 1) rfl (gx_21 E g a)) rfl hl.1 rfl (Nat.le_of_ble_eq_true rfl) dX1_takes_108 ⟨Nat.zero_le _, Nat.zero_le _⟩) hS (fun H locs hP hS => ?_)
                obtain ⟨k21, hf⟩ := ck_some hf
                exact xz_retS (fr := (fun r => r.1)) (fw := (fun r => wX E r.2.1 r.2.2)) hx hb hr hlocks (Option.some.inj hf) (boB_bo k21) hP hS dX1_takes_111
def f_X1_read_21 : Nat → xG → xA → Int32 → Option (Int32 × xG × xA)
  | 0, _, _, _ => none
  | n + 1, g, a, x2 => (if (g 6) ≤ x2 then (if (g 8) = 7 then some ((-1), g, a) else some ((g 6), g, a)) else Option.bind (f_X9_signAt g a x2) (fun u3 => Option.bind (f_X1_takes g a u3) (fun u5 => (if u5.1 = 0 then some (x2, u5.2.1, u5.2.2) else f_X1_read_21 n u5.2.1 u5.2.2 (x2 + 1)))))
theorem e_X1_read_21 (n : Nat) (g : xG) (a : xA) (x2 : Int32) : f_X1_read_21 (n + 1) g a x2 = (if (g 6) ≤ x2 then (if (g 8) = 7 then some ((-1), g, a) else some ((g 6), g, a)) else Option.bind (f_X9_signAt g a x2) (fun u3 => Option.bind (f_X1_takes g a u3) (fun u5 => (if u5.1 = 0 then some (x2, u5.2.1, u5.2.2) else f_X1_read_21 n u5.2.1 u5.2.2 (x2 + 1))))) := rfl
def f_X1_read (g : xG) (a : xA) : Option (Int32 × xG × xA) := f_X1_read_21 fu (t_X2_begin 0 (upd (upd g 8 0) 7 0) a 6) a 0
set_option maxRecDepth 100000 in
set_option maxHeartbeats 40000000 in
theorem c_X1_read (l : Launch) (E : xE) (g : xG) (a : xA) {res : Int32 × xG × xA} (hf : f_X1_read g a = some res) : xM l E yX1_read cX1_read 3 (some .int) 6 132 [.ref (E.2.1 21), .ref (E.2.1 19)] (wX E g a) (xQi E res.1 (wX E res.2.1 res.2.2)) := by
  unfold f_X1_read at hf
  refine xM_of (by decide) (Nat.le_of_ble_eq_true rfl) ?_
  intro p e s m below meth c A hx hb hr hml hts hown hlocks hA hD hP hK hN hS ls hl
  have hw : ∀ w ∈ BW, w.before _ s = true := fun w h => hts w (List.mem_cons_of_mem _ h)
  have C0 : xCtx E p m c cX1_read 3 s _ RX1 A yX1_read cX1_read 3 (some .int) := ⟨hx, hb, hml, hown, hts, hA, hK, hN⟩
  have hl : lv_has ls 3 [(0, .ref (E.2.1 21)), (1, .ref (E.2.1 19))] := hl
  have B21 : ∀ (n : Nat) (g : xG) (a : xA) (x2 : Int32) (H : Heap) (locs : List Loc) (ls : Array Slot), va_P E.1 vwCl (wX E g a) H → va_S A s.heap H locs → lv_has ls 3 [(0, .ref (E.2.1 21)), (1, .ref (E.2.1 19)), (2, .int x2)] → f_X1_read_21 n g a x2 = some res → W p l e ({ frames := 6, cells := 0, slots := 0, locals := 132 }) s m ([.ref (E.2.1 21), .ref (E.2.1 19)] : List Value).toArray below meth c H locs 0 0 (MQ below ((xQi E res.1 (wX E res.2.1 res.2.2)) A) ([.ref (E.2.1 21), .ref (E.2.1 19)] : List Value).toArray s 0 0 A) (F0 m 21 ls []) := by
    intro n
    induction n with
    | zero => intro g a x2 H locs ls hP hS hl hf; exact absurd (show (none : Option (Int32 × xG × xA)) = some res from hf) (by intro h; cases h)
    | succ n ih =>
      intro g a x2 H locs ls hP hS hl hf
      replace hf := (e_X1_read_21 n g a x2).symm.trans hf
      refine lv_iload_n hx hb dX1_read_21 rfl (lv_at hl 2 rfl) ?_
      refine lv_aload_n hx hb dX1_read_22 rfl (lv_at hl 1 rfl) ?_
      refine va_get (C := RX9) (T := TX9) (N := 2) hx hb hw bfX90 hown hK hP 19 (gx_19 E g a) rfl 0 (by decide) (hw _ bw158) (fun _ h9 => h9) rfl dX1_read_23 ?_
      refine lv_icmp_ge (tgt := 49) hx hb dX1_read_26 (by decide) (fun c1 => ?_) (fun c1 => ?_)
      · replace hf := (if_pos c1).symm.trans hf
        refine lv_aload_n hx hb dX1_read_49 rfl (lv_at hl 0 rfl) ?_
        refine va_get (C := RX1) (T := TX1) (N := 9) hx hb hw bfX10 hown hK hP 21 (gx_21 E g a) rfl 5 (by decide) (hw _ bw99) (fun _ h9 => h9) rfl dX1_read_50 ?_
        refine lv_bipush (v := 7) hx hb dX1_read_53 (by decide) ?_
        refine lv_icmp_ne (tgt := 62) hx hb dX1_read_55 (by decide) (fun c2 => ?_) (fun c2 => ?_)
        · replace hf := (if_neg c2).symm.trans hf
          refine lv_aload_n hx hb dX1_read_62 rfl (lv_at hl 1 rfl) ?_
          refine va_get (C := RX9) (T := TX9) (N := 2) hx hb hw bfX90 hown hK hP 19 (gx_19 E g a) rfl 0 (by decide) (hw _ bw158) (fun _ h9 => h9) rfl dX1_read_63 ?_
          exact xi_retS (fr := (fun r => r.1)) (fw := (fun r => wX E r.2.1 r.2.2)) hx hb hr hlocks (Option.some.inj hf) hP hS dX1_read_66
        · replace hf := (if_pos c2).symm.trans hf
          refine lv_iconst (v := (-1)) hx hb dX1_read_58 (by decide) ?_
          refine lv_goto (tgt := 66) hx hb dX1_read_59 (by decide) ?_
          exact xi_retS (fr := (fun r => r.1)) (fw := (fun r => wX E r.2.1 r.2.2)) hx hb hr hlocks (Option.some.inj hf) hP hS dX1_read_66
      · replace hf := (if_neg c1).symm.trans hf
        refine lv_aload_n hx hb dX1_read_29 rfl (lv_at hl 0 rfl) ?_
        refine lv_aload_n hx hb dX1_read_30 rfl (lv_at hl 1 rfl) ?_
        refine lv_iload_n hx hb dX1_read_31 rfl (lv_at hl 2 rfl) ?_
        obtain ⟨u3, e4, hf⟩ := bd_some hf
        refine xci (xRunV (rest := [.ref (E.2.1 21)]) (As := [.int x2]) (C := RX9) (k := 1) C0 (c_X9_signAt l E g a x2 e4) bw93 bw162 bw103 bw163 bw164 hd_X9_signAt ⟨Nat.le_of_ble_eq_true rfl, Nat.le_of_ble_eq_true rfl⟩ hP (wX_D hD) hS (va_recv hK hP (ci := 9) rfl (gx_19 E g a)) rfl hl.1 rfl (Nat.le_of_ble_eq_true rfl) dX1_read_32 ⟨Nat.zero_le _, Nat.zero_le _⟩) hS (fun H locs hP hS => ?_)
        obtain ⟨u5, e6, hf⟩ := bd_some hf
        refine xci (xRunV (rest := []) (As := [.int u3]) (C := RX1) (k := 1) C0 (c_X1_takes l E g a u3 e6) bw157 bw165 bw147 bw166 bw167 hd_X1_takes ⟨Nat.le_of_ble_eq_true rfl, Nat.le_of_ble_eq_true rfl⟩ hP (wX_D hD) hS (va_recv hK hP (ci := 1) rfl (gx_21 E g a)) rfl hl.1 rfl (Nat.le_of_ble_eq_true rfl) dX1_read_35 ⟨Nat.zero_le _, Nat.zero_le _⟩) hS (fun H locs hP hS => ?_)
        refine lv_if_ne (tgt := 43) hx hb dX1_read_38 (by decide) (fun c7 => ?_) (fun c7 => ?_)
        · replace hf := (if_neg c7).symm.trans hf
          refine lv_iinc (v := (x2 + 1)) (lv' := [(2, .int (x2 + 1)), (0, .ref (E.2.1 21)), (1, .ref (E.2.1 19))]) hx hb dX1_read_43 hl (k := 2) rfl rfl (by decide) rfl (fun ls hl => ?_)
          refine lv_goto (tgt := 21) hx hb dX1_read_46 (by decide) ?_
          exact ih u5.2.1 u5.2.2 (x2 + 1) _ _ _ hP hS (lv_sub hl [1, 2, 0] rfl) hf
        · replace hf := (if_pos c7).symm.trans hf
          refine lv_iload_n hx hb dX1_read_41 rfl (lv_at hl 2 rfl) ?_
          exact xi_retS (fr := (fun r => r.1)) (fw := (fun r => wX E r.2.1 r.2.2)) hx hb hr hlocks (Option.some.inj hf) hP hS dX1_read_42
  refine lv_aload_n hx hb dX1_read_0 rfl (lv_at hl 0 rfl) ?_
  refine lv_iconst (v := 0) hx hb dX1_read_1 (by decide) ?_
  refine va_put (v := .int 0) (ty := .int) (C := RX1) (T := TX1) (N := 9) hx hb hw bfX10 tyX1 tyX1_ok nmX1 hown hK hP (wX_D hD) hS 21 (gx_21 E g a) rfl 5 (by decide) (hw _ bw99) (fun _ h9 => h9) rfl (by decide +kernel) rfl rfl (Nat.le_of_ble_eq_true rfl) dX1_read_2 (fun H locs hP _ hS => ?_)
  have hP := xP_eq (sx_g8 E g a 0) hP
  refine lv_aload_n hx hb dX1_read_5 rfl (lv_at hl 0 rfl) ?_
  refine lv_iconst (v := 0) hx hb dX1_read_6 (by decide) ?_
  refine va_put (v := .int 0) (ty := .int) (C := RX1) (T := TX1) (N := 9) hx hb hw bfX10 tyX1 tyX1_ok nmX1 hown hK hP (wX_D hD) hS 21 (gx_21 E (upd g 8 0) a) rfl 0 (by decide) (hw _ bw100) (fun _ h9 => h9) rfl (by decide +kernel) rfl rfl (Nat.le_of_ble_eq_true rfl) dX1_read_7 (fun H locs hP _ hS => ?_)
  have hP := xP_eq (sx_g7 E (upd g 8 0) a 0) hP
  refine lv_aload_n hx hb dX1_read_10 rfl (lv_at hl 0 rfl) ?_
  refine va_get (C := RX1) (T := TX1) (N := 9) hx hb hw bfX10 hown hK hP 21 (gx_21 E (upd (upd g 8 0) 7 0) a) rfl 3 (by decide) (hw _ bw87) (fun _ h9 => h9) rfl dX1_read_11 ?_
  refine lv_bipush (v := 6) hx hb dX1_read_14 (by decide) ?_
  refine xcv (xRunV (rest := []) (As := [.int 6]) (C := RX2) (k := 1) C0 (c_X2_begin l E 0 (by decide) (upd (upd g 8 0) 7 0) a 6) bw90 bw159 bw86 bw160 bw161 hd_X2_begin ⟨Nat.le_of_ble_eq_true rfl, Nat.le_of_ble_eq_true rfl⟩ hP (wX_D hD) hS (va_recv hK hP (ci := 2) rfl (gx_24 E (upd (upd g 8 0) 7 0) a)) rfl hl.1 rfl (Nat.le_of_ble_eq_true rfl) dX1_read_16 ⟨Nat.zero_le _, Nat.zero_le _⟩) hS (fun H locs hP hS => ?_)
  refine lv_iconst (v := 0) hx hb dX1_read_19 (by decide) ?_
  refine lv_istore_n (lv' := [(2, .int 0), (0, .ref (E.2.1 21)), (1, .ref (E.2.1 19))]) hx hb dX1_read_20 rfl hl (by decide) rfl (fun ls hl => ?_)
  exact B21 fu (t_X2_begin 0 (upd (upd g 8 0) 7 0) a 6) a 0 _ _ _ hP hS (lv_sub hl [1, 2, 0] rfl) hf
def t_X4_allValues (g : xG) (a : xA) : Int32 := (((1 : Int32) <<< ((g 0) &&& 31)) - 1)
set_option maxRecDepth 100000 in
set_option maxHeartbeats 40000000 in
theorem c_X4_allValues (l : Launch) (E : xE) (g : xG) (a : xA) : xM l E yX4_allValues cX4_allValues 1 (some .int) 0 0 [.ref (E.2.1 1)] (wX E g a) (xQi E (t_X4_allValues g a) (wX E g a)) := by
  obtain ⟨res, hres⟩ : ∃ z, z = t_X4_allValues g a := ⟨_, rfl⟩
  rw [← hres]
  have hf : _ = res := hres.symm
  unfold t_X4_allValues at hf
  refine xM_of (by decide) (Nat.le_of_ble_eq_true rfl) ?_
  intro p e s m below meth c A hx hb hr hml hts hown hlocks hA hD hP hK hN hS ls hl
  have hw : ∀ w ∈ BW, w.before _ s = true := fun w h => hts w (List.mem_cons_of_mem _ h)
  have C0 : xCtx E p m c cX4_allValues 1 s _ RX4 A yX4_allValues cX4_allValues 1 (some .int) := ⟨hx, hb, hml, hown, hts, hA, hK, hN⟩
  have hl : lv_has ls 1 [(0, .ref (E.2.1 1))] := hl
  refine lv_iconst (v := 1) hx hb dX4_allValues_0 (by decide) ?_
  refine lv_aload_n hx hb dX4_allValues_1 rfl (lv_at hl 0 rfl) ?_
  refine va_get (C := RX4) (T := TX4) (N := 3) hx hb hw bfX40 hown hK hP 1 (gx_1 E g a) rfl 0 (by decide) (hw _ bw97) (fun _ h9 => h9) rfl dX4_allValues_2 ?_
  refine lv_ishl hx hb dX4_allValues_5 ?_
  refine lv_iconst (v := 1) hx hb dX4_allValues_6 (by decide) ?_
  refine lv_isub hx hb dX4_allValues_7 ?_
  exact xi_retS (fr := (fun r => r)) (fw := (fun r => wX E g a)) hx hb hr hlocks hf hP hS dX4_allValues_8
