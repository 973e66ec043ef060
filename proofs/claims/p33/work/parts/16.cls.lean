/-! X6_imagesOfAll, X6_madeOfParts, X6_countKept, X7_valuesWith, X7_leftOf, X7_setLeft, X7_leaveStanding, X7_leaveAtFirst, X7_joined, X7_takesAway, X7_isSomethingTakenAway, X7_ofVariables, X9_canHold, X9_add, X10_begin, X10_setTuples, X10_add -/
def f_X6_imagesOfAll_5 : Nat → xG → xA → Int32 → Int32 → Int32 → Int32 → Option (Int32 × xG × xA)
  | 0, _, _, _, _, _, _ => none
  | n + 1, g, a, x1, x2, x3, x4 => (if (g 4) ≤ x4 then some (x3, g, a) else (om (getF (g 4) x4) (f_X6_imagesOfAll_5 n g a x1 x2 x3 (x4 + 1)) (fun k3 => Option.bind (f_X0_images k3 g a x1 x2) (fun u4 => f_X6_imagesOfAll_5 n u4.2.1 u4.2.2 x1 x2 (x3 ||| u4.1) (x4 + 1)))))
theorem e_X6_imagesOfAll_5 (n : Nat) (g : xG) (a : xA) (x1 : Int32) (x2 : Int32) (x3 : Int32) (x4 : Int32) : f_X6_imagesOfAll_5 (n + 1) g a x1 x2 x3 x4 = (if (g 4) ≤ x4 then some (x3, g, a) else (om (getF (g 4) x4) (f_X6_imagesOfAll_5 n g a x1 x2 x3 (x4 + 1)) (fun k3 => Option.bind (f_X0_images k3 g a x1 x2) (fun u4 => f_X6_imagesOfAll_5 n u4.2.1 u4.2.2 x1 x2 (x3 ||| u4.1) (x4 + 1))))) := rfl
def f_X6_imagesOfAll (g : xG) (a : xA) (v1 : Int32) (v2 : Int32) : Option (Int32 × xG × xA) := f_X6_imagesOfAll_5 fu g a v1 v2 0 0
set_option maxRecDepth 100000 in
set_option maxHeartbeats 40000000 in
theorem c_X6_imagesOfAll (l : Launch) (E : xE) (g : xG) (a : xA) (v1 : Int32) (v2 : Int32) {res : Int32 × xG × xA} (hf : f_X6_imagesOfAll g a v1 v2 = some res) : xM l E yX6_imagesOfAll cX6_imagesOfAll 6 (some .int) 4 91 [.ref (E.2.1 10), .int v1, .int v2] (wX E g a) (xQi E res.1 (wX E res.2.1 res.2.2)) := by
  unfold f_X6_imagesOfAll at hf
  refine xM_of (by decide) (Nat.le_of_ble_eq_true rfl) ?_
  intro p e s m below meth c A hx hb hr hml hts hown hlocks hA hD hP hK hN hS ls hl
  have hw : ∀ w ∈ BW, w.before _ s = true := fun w h => hts w (List.mem_cons_of_mem _ h)
  have C0 : xCtx E p m c cX6_imagesOfAll 6 s _ RX6 A yX6_imagesOfAll cX6_imagesOfAll 6 (some .int) := ⟨hx, hb, hml, hown, hts, hA, hK, hN⟩
  have hl : lv_has ls 6 [(0, .ref (E.2.1 10)), (1, .int v1), (2, .int v2)] := hl
  have B5 : ∀ (n : Nat) (g : xG) (a : xA) (x1 : Int32) (x2 : Int32) (x3 : Int32) (x4 : Int32) (H : Heap) (locs : List Loc) (ls : Array Slot), va_P E.1 vwCl (wX E g a) H → va_S A s.heap H locs → lv_has ls 6 [(0, .ref (E.2.1 10)), (1, .int x1), (2, .int x2), (3, .int x3), (4, .int x4)] → f_X6_imagesOfAll_5 n g a x1 x2 x3 x4 = some res → W p l e ({ frames := 4, cells := 0, slots := 0, locals := 91 }) s m ([.ref (E.2.1 10), .int v1, .int v2] : List Value).toArray below meth c H locs 0 0 (MQ below ((xQi E res.1 (wX E res.2.1 res.2.2)) A) ([.ref (E.2.1 10), .int v1, .int v2] : List Value).toArray s 0 0 A) (F0 m 5 ls []) := by
    intro n
    induction n with
    | zero => intro g a x1 x2 x3 x4 H locs ls hP hS hl hf; exact absurd (show (none : Option (Int32 × xG × xA)) = some res from hf) (by intro h; cases h)
    | succ n ih =>
      intro g a x1 x2 x3 x4 H locs ls hP hS hl hf
      replace hf := (e_X6_imagesOfAll_5 n g a x1 x2 x3 x4).symm.trans hf
      refine lv_iload hx hb dX6_imagesOfAll_5 (lv_at hl 4 rfl) ?_
      refine lv_aload_n hx hb dX6_imagesOfAll_7 rfl (lv_at hl 0 rfl) ?_
      refine va_get (C := RX6) (T := TX6) (N := 5) hx hb hw bfX60 hown hK hP 10 (gx_10 E g a) rfl 0 (by decide) (hw _ bw446) (fun _ h9 => h9) rfl dX6_imagesOfAll_8 ?_
      refine lv_icmp_ge (tgt := 47) hx hb dX6_imagesOfAll_11 (by decide) (fun c1 => ?_) (fun c1 => ?_)
      · replace hf := (if_pos c1).symm.trans hf
        refine lv_iload_n hx hb dX6_imagesOfAll_47 rfl (lv_at hl 3 rfl) ?_
        exact xi_retS (fr := (fun r => r.1)) (fw := (fun r => wX E r.2.1 r.2.2)) hx hb hr hlocks (Option.some.inj hf) hP hS dX6_imagesOfAll_48
      · replace hf := (if_neg c1).symm.trans hf
        refine lv_aload_n hx hb dX6_imagesOfAll_14 rfl (lv_at hl 0 rfl) ?_
        refine lv_iload hx hb dX6_imagesOfAll_15 (lv_at hl 4 rfl) ?_
        rcases q2 : (getF (g 4) x4) with _ | k3
        · replace hf := (om_none q2).symm.trans hf
          refine xcq (xRunV (rest := []) (As := [.int x4]) (C := RX6) (k := 1) C0 (c_X6_getN l E g a x4 q2) bw445 bw447 bw450 bw448 bw449 hd_X6_get ⟨Nat.le_of_ble_eq_true rfl, Nat.le_of_ble_eq_true rfl⟩ hP (wX_D hD) hS (va_recv hK hP (ci := 6) rfl (gx_10 E g a)) rfl hl.1 rfl (Nat.le_of_ble_eq_true rfl) dX6_imagesOfAll_17 ⟨Nat.zero_le _, Nat.zero_le _⟩) hS (fun H locs hP hS => ?_)
          refine lv_astoreN (lv' := [(5, .null), (0, .ref (E.2.1 10)), (1, .int x1), (2, .int x2), (3, .int x3), (4, .int x4)]) hx hb dX6_imagesOfAll_20 hl (by decide) rfl (fun ls hl => ?_)
          refine lv_aloadN hx hb dX6_imagesOfAll_22 (lv_at hl 0 rfl) ?_
          refine lv_ifnullN (tgt := 41) hx hb dX6_imagesOfAll_24 (by decide) ?_
          refine lv_iinc (v := (x4 + 1)) (lv' := [(4, .int (x4 + 1)), (5, .null), (0, .ref (E.2.1 10)), (1, .int x1), (2, .int x2), (3, .int x3)]) hx hb dX6_imagesOfAll_41 hl (k := 5) rfl rfl (by decide) rfl (fun ls hl => ?_)
          refine lv_goto (tgt := 5) hx hb dX6_imagesOfAll_44 (by decide) ?_
          exact ih g a x1 x2 x3 (x4 + 1) _ _ _ hP hS (lv_sub hl [2, 3, 4, 5, 0] rfl) hf
        · replace hf := (om_some q2).symm.trans hf
          have hk3 := getF_lt q2
          refine xcq (xRunV (rest := []) (As := [.int x4]) (C := RX6) (k := 1) C0 (c_X6_getS l E g a x4 q2) bw445 bw447 bw450 bw448 bw449 hd_X6_get ⟨Nat.le_of_ble_eq_true rfl, Nat.le_of_ble_eq_true rfl⟩ hP (wX_D hD) hS (va_recv hK hP (ci := 6) rfl (gx_10 E g a)) rfl hl.1 rfl (Nat.le_of_ble_eq_true rfl) dX6_imagesOfAll_17 ⟨Nat.zero_le _, Nat.zero_le _⟩) hS (fun H locs hP hS => ?_)
          refine lv_astore (lv' := [(5, .ref (E.2.1 (40 + k3))), (0, .ref (E.2.1 10)), (1, .int x1), (2, .int x2), (3, .int x3), (4, .int x4)]) hx hb dX6_imagesOfAll_20 hl (by decide) rfl (fun ls hl => ?_)
          refine lv_aload hx hb dX6_imagesOfAll_22 (lv_at hl 0 rfl) ?_
          refine lv_ifnull hx hb dX6_imagesOfAll_24 ?_
          refine lv_iload_n hx hb dX6_imagesOfAll_27 rfl (lv_at hl 4 rfl) ?_
          refine lv_aload_n hx hb dX6_imagesOfAll_28 rfl (lv_at hl 1 rfl) ?_
          refine va_get (C := RX6) (T := TX6) (N := 5) hx hb hw bfX60 hown hK hP 10 (gx_10 E g a) rfl 2 (by decide) (hw _ bw443) (fun _ h9 => h9) rfl dX6_imagesOfAll_29 ?_
          refine lv_aload hx hb dX6_imagesOfAll_32 (lv_at hl 0 rfl) ?_
          refine lv_iload_n hx hb dX6_imagesOfAll_34 rfl (lv_at hl 2 rfl) ?_
          refine lv_iload_n hx hb dX6_imagesOfAll_35 rfl (lv_at hl 3 rfl) ?_
          obtain ⟨u4, e5, hf⟩ := bd_some hf
          refine xci (xRunV (rest := [.int x3]) (As := [.ref (E.2.1 (40 + k3)), .int x1, .int x2]) (C := RX0) (k := 3) C0 (c_X0_images l E k3 hk3 g a x1 x2 e5) bw54 bw464 bw30 bw61 bw62 hd_X0_images ⟨Nat.le_of_ble_eq_true rfl, Nat.le_of_ble_eq_true rfl⟩ hP (wX_D hD) hS (va_recv hK hP (ci := 0) rfl (gx_7 E g a)) rfl hl.1 rfl (Nat.le_of_ble_eq_true rfl) dX6_imagesOfAll_36 ⟨Nat.zero_le _, Nat.zero_le _⟩) hS (fun H locs hP hS => ?_)
          refine lv_ior hx hb dX6_imagesOfAll_39 ?_
          refine lv_istore_n (lv' := [(3, .int (x3 ||| u4.1)), (5, .ref (E.2.1 (40 + k3))), (0, .ref (E.2.1 10)), (1, .int x1), (2, .int x2), (4, .int x4)]) hx hb dX6_imagesOfAll_40 rfl hl (by decide) rfl (fun ls hl => ?_)
          refine lv_iinc (v := (x4 + 1)) (lv' := [(4, .int (x4 + 1)), (3, .int (x3 ||| u4.1)), (5, .ref (E.2.1 (40 + k3))), (0, .ref (E.2.1 10)), (1, .int x1), (2, .int x2)]) hx hb dX6_imagesOfAll_41 hl (k := 5) rfl rfl (by decide) rfl (fun ls hl => ?_)
          refine lv_goto (tgt := 5) hx hb dX6_imagesOfAll_44 (by decide) ?_
          exact ih u4.2.1 u4.2.2 x1 x2 (x3 ||| u4.1) (x4 + 1) _ _ _ hP hS (lv_sub hl [3, 4, 5, 1, 0] rfl) hf
  refine lv_iconst (v := 0) hx hb dX6_imagesOfAll_0 (by decide) ?_
  refine lv_istore_n (lv' := [(3, .int 0), (0, .ref (E.2.1 10)), (1, .int v1), (2, .int v2)]) hx hb dX6_imagesOfAll_1 rfl hl (by decide) rfl (fun ls hl => ?_)
  refine lv_iconst (v := 0) hx hb dX6_imagesOfAll_2 (by decide) ?_
  refine lv_istore (lv' := [(4, .int 0), (3, .int 0), (0, .ref (E.2.1 10)), (1, .int v1), (2, .int v2)]) hx hb dX6_imagesOfAll_3 hl (by decide) rfl (fun ls hl => ?_)
  exact B5 fu g a v1 v2 0 0 _ _ _ hP hS (lv_sub hl [2, 3, 4, 1, 0] rfl) hf
def f_X6_madeOfParts_4 (g : xG) (a : xA) : Nat → Int32 → Int32 → Int32 → Option (Int32)
  | 0, _, _, _ => none
  | n + 1, x1, x2, x3 => (if 9 ≤ x3 then some x2 else (if (isInF x3 x1) = 0 then f_X6_madeOfParts_4 g a n x1 x2 (x3 + 1) else f_X6_madeOfParts_4 g a n x1 (x2 ||| (atF 512 (a 12) (x1 &&& (((1 : Int32) <<< (x3 &&& 31)) ^^^ (-1))))) (x3 + 1)))
theorem e_X6_madeOfParts_4 (g : xG) (a : xA) (n : Nat) (x1 : Int32) (x2 : Int32) (x3 : Int32) : f_X6_madeOfParts_4 g a (n + 1) x1 x2 x3 = (if 9 ≤ x3 then some x2 else (if (isInF x3 x1) = 0 then f_X6_madeOfParts_4 g a n x1 x2 (x3 + 1) else f_X6_madeOfParts_4 g a n x1 (x2 ||| (atF 512 (a 12) (x1 &&& (((1 : Int32) <<< (x3 &&& 31)) ^^^ (-1))))) (x3 + 1))) := rfl
def f_X6_madeOfParts (g : xG) (a : xA) (v1 : Int32) : Option (Int32) := f_X6_madeOfParts_4 g a fu v1 0 0
set_option maxRecDepth 100000 in
set_option maxHeartbeats 40000000 in
theorem c_X6_madeOfParts (l : Launch) (E : xE) (g : xG) (a : xA) (v1 : Int32) {res : Int32} (hf : f_X6_madeOfParts g a v1 = some res) : xM l E yX6_madeOfParts cX6_madeOfParts 4 (some .int) 1 21 [.ref (E.2.1 10), .int v1] (wX E g a) (xQi E res (wX E g a)) := by
  unfold f_X6_madeOfParts at hf
  refine xM_of (by decide) (Nat.le_of_ble_eq_true rfl) ?_
  intro p e s m below meth c A hx hb hr hml hts hown hlocks hA hD hP hK hN hS ls hl
  have hw : ∀ w ∈ BW, w.before _ s = true := fun w h => hts w (List.mem_cons_of_mem _ h)
  have C0 : xCtx E p m c cX6_madeOfParts 4 s _ RX6 A yX6_madeOfParts cX6_madeOfParts 4 (some .int) := ⟨hx, hb, hml, hown, hts, hA, hK, hN⟩
  have hl : lv_has ls 4 [(0, .ref (E.2.1 10)), (1, .int v1)] := hl
  have B4 : ∀ (n : Nat) (x1 : Int32) (x2 : Int32) (x3 : Int32) (H : Heap) (locs : List Loc) (ls : Array Slot), va_P E.1 vwCl (wX E g a) H → va_S A s.heap H locs → lv_has ls 4 [(0, .ref (E.2.1 10)), (1, .int x1), (2, .int x2), (3, .int x3)] → f_X6_madeOfParts_4 g a n x1 x2 x3 = some res → W p l e ({ frames := 1, cells := 0, slots := 0, locals := 21 }) s m ([.ref (E.2.1 10), .int v1] : List Value).toArray below meth c H locs 0 0 (MQ below ((xQi E res (wX E g a)) A) ([.ref (E.2.1 10), .int v1] : List Value).toArray s 0 0 A) (F0 m 4 ls []) := by
    intro n
    induction n with
    | zero => intro x1 x2 x3 H locs ls hP hS hl hf; exact absurd (show (none : Option (Int32)) = some res from hf) (by intro h; cases h)
    | succ n ih =>
      intro x1 x2 x3 H locs ls hP hS hl hf
      replace hf := (e_X6_madeOfParts_4 g a n x1 x2 x3).symm.trans hf
      refine lv_iload_n hx hb dX6_madeOfParts_4 rfl (lv_at hl 3 rfl) ?_
      refine lv_bipush (v := 9) hx hb dX6_madeOfParts_5 (by decide) ?_
      refine lv_icmp_ge (tgt := 41) hx hb dX6_madeOfParts_7 (by decide) (fun c1 => ?_) (fun c1 => ?_)
      · replace hf := (if_pos c1).symm.trans hf
        refine lv_iload_n hx hb dX6_madeOfParts_41 rfl (lv_at hl 2 rfl) ?_
        exact xi_retS (fr := (fun r => r)) (fw := (fun r => wX E g a)) hx hb hr hlocks (Option.some.inj hf) hP hS dX6_madeOfParts_42
      · replace hf := (if_neg c1).symm.trans hf
        refine lv_iload_n hx hb dX6_madeOfParts_10 rfl (lv_at hl 3 rfl) ?_
        refine lv_iload_n hx hb dX6_madeOfParts_11 rfl (lv_at hl 1 rfl) ?_
        refine xci (xRunN (rest := []) (As := [.int x3, .int x1]) (k := 2) C0 (c_isIn l E (wX E g a) x3 x1) bw8 nw15 bw13 bw18 hd_X11_isIn ⟨Nat.le_of_ble_eq_true rfl, Nat.le_of_ble_eq_true rfl⟩ hP (wX_D hD) hS rfl hl.1 rfl (Nat.le_of_ble_eq_true rfl) dX6_madeOfParts_12 ⟨Nat.zero_le _, Nat.zero_le _⟩) hS (fun H locs hP hS => ?_)
        refine lv_if_eq (tgt := 35) hx hb dX6_madeOfParts_15 (by decide) (fun c2 => ?_) (fun c2 => ?_)
        · replace hf := (if_pos c2).symm.trans hf
          refine lv_iinc (v := (x3 + 1)) (lv' := [(3, .int (x3 + 1)), (0, .ref (E.2.1 10)), (1, .int x1), (2, .int x2)]) hx hb dX6_madeOfParts_35 hl (k := 3) rfl rfl (by decide) rfl (fun ls hl => ?_)
          refine lv_goto (tgt := 4) hx hb dX6_madeOfParts_38 (by decide) ?_
          exact ih x1 x2 (x3 + 1) _ _ _ hP hS (lv_sub hl [1, 2, 3, 0] rfl) hf
        · replace hf := (if_neg c2).symm.trans hf
          refine lv_iload_n hx hb dX6_madeOfParts_18 rfl (lv_at hl 2 rfl) ?_
          refine lv_aload_n hx hb dX6_madeOfParts_19 rfl (lv_at hl 0 rfl) ?_
          refine va_get (C := RX6) (T := TX6) (N := 5) hx hb hw bfX60 hown hK hP 10 (gx_10 E g a) rfl 4 (by decide) (hw _ bw441) (fun _ h9 => h9) rfl dX6_madeOfParts_20 ?_
          refine lv_iload_n hx hb dX6_madeOfParts_23 rfl (lv_at hl 1 rfl) ?_
          refine lv_iconst (v := 1) hx hb dX6_madeOfParts_24 (by decide) ?_
          refine lv_iload_n hx hb dX6_madeOfParts_25 rfl (lv_at hl 3 rfl) ?_
          refine lv_ishl hx hb dX6_madeOfParts_26 ?_
          refine lv_iconst (v := (-1)) hx hb dX6_madeOfParts_27 (by decide) ?_
          refine lv_ixor hx hb dX6_madeOfParts_28 ?_
          refine lv_iand hx hb dX6_madeOfParts_29 ?_
          refine xci (xRunN (rest := [.int x2]) (As := [.ref (E.2.1 12), .int (x1 &&& (((1 : Int32) <<< (x3 &&& 31)) ^^^ (-1)))]) (k := 2) C0 (c_at l E (wX E g a) 12 (x1 &&& (((1 : Int32) <<< (x3 &&& 31)) ^^^ (-1))) (gx_12 E g a) (Nat.le_of_ble_eq_true rfl)) bw9 nw16 bw13 bw12 hd_X11_at ⟨Nat.le_of_ble_eq_true rfl, Nat.le_of_ble_eq_true rfl⟩ hP (wX_D hD) hS rfl hl.1 rfl (Nat.le_of_ble_eq_true rfl) dX6_madeOfParts_30 ⟨Nat.zero_le _, Nat.zero_le _⟩) hS (fun H locs hP hS => ?_)
          refine lv_ior hx hb dX6_madeOfParts_33 ?_
          refine lv_istore_n (lv' := [(2, .int (x2 ||| (atF 512 (a 12) (x1 &&& (((1 : Int32) <<< (x3 &&& 31)) ^^^ (-1)))))), (0, .ref (E.2.1 10)), (1, .int x1), (3, .int x3)]) hx hb dX6_madeOfParts_34 rfl hl (by decide) rfl (fun ls hl => ?_)
          refine lv_iinc (v := (x3 + 1)) (lv' := [(3, .int (x3 + 1)), (2, .int (x2 ||| (atF 512 (a 12) (x1 &&& (((1 : Int32) <<< (x3 &&& 31)) ^^^ (-1)))))), (0, .ref (E.2.1 10)), (1, .int x1)]) hx hb dX6_madeOfParts_35 hl (k := 3) rfl rfl (by decide) rfl (fun ls hl => ?_)
          refine lv_goto (tgt := 4) hx hb dX6_madeOfParts_38 (by decide) ?_
          exact ih x1 (x2 ||| (atF 512 (a 12) (x1 &&& (((1 : Int32) <<< (x3 &&& 31)) ^^^ (-1))))) (x3 + 1) _ _ _ hP hS (lv_sub hl [2, 3, 1, 0] rfl) hf
  refine lv_iconst (v := 0) hx hb dX6_madeOfParts_0 (by decide) ?_
  refine lv_istore_n (lv' := [(2, .int 0), (0, .ref (E.2.1 10)), (1, .int v1)]) hx hb dX6_madeOfParts_1 rfl hl (by decide) rfl (fun ls hl => ?_)
  refine lv_iconst (v := 0) hx hb dX6_madeOfParts_2 (by decide) ?_
  refine lv_istore_n (lv' := [(3, .int 0), (2, .int 0), (0, .ref (E.2.1 10)), (1, .int v1)]) hx hb dX6_madeOfParts_3 rfl hl (by decide) rfl (fun ls hl => ?_)
  exact B4 fu v1 0 0 _ _ _ hP hS (lv_sub hl [2, 3, 1, 0] rfl) hf
def f_X6_countKept_67 (K24 : xG → xA → Int32 → Int32 → Int32 → Int32 → Option (Int32 × xG × xA)) (g : xG) (a : xA) (x1 : Int32) (x2 : Int32) (x3 : Int32) (x4 : Int32) (s0 : Int32) : Option (Int32 × xG × xA) := (if (s0 &&& (x4 ^^^ (-1))) = 0 then K24 g (upA a 12 (putF 512 (a 12) x4 s0)) x1 (x2 + 1) x3 (x4 + 1) else K24 g (upA a 12 (putF 512 (a 12) x4 s0)) x1 x2 x3 (x4 + 1))
def f_X6_countKept_44 (K24 : xG → xA → Int32 → Int32 → Int32 → Int32 → Option (Int32 × xG × xA)) (g : xG) (a : xA) (x1 : Int32) (x2 : Int32) (x3 : Int32) (x4 : Int32) (s0 : Int32) : Option (Int32 × xG × xA) := (if s0 = 0 then Option.bind (f_X6_madeOfParts g a x4) (fun u4 => f_X6_countKept_67 K24 g a x1 x2 x3 x4 u4) else Option.bind (f_X6_imagesOfAll g a x1 x4) (fun u6 => f_X6_countKept_67 K24 u6.2.1 u6.2.2 x1 x2 x3 x4 u6.1))
def f_X6_countKept_24 : Nat → xG → xA → Int32 → Int32 → Int32 → Int32 → Option (Int32 × xG × xA)
  | 0, _, _, _, _, _, _ => none
  | n + 1, g, a, x1, x2, x3, x4 => (if x3 ≤ x4 then some (x2, g, a) else (if 3 < (t_J6_bitCount_0f7a4 g a x4) then f_X6_countKept_44 (f_X6_countKept_24 n) g a x1 x2 x3 x4 0 else f_X6_countKept_44 (f_X6_countKept_24 n) g a x1 x2 x3 x4 1))
theorem e_X6_countKept_24 (n : Nat) (g : xG) (a : xA) (x1 : Int32) (x2 : Int32) (x3 : Int32) (x4 : Int32) : f_X6_countKept_24 (n + 1) g a x1 x2 x3 x4 = (if x3 ≤ x4 then some (x2, g, a) else (if 3 < (t_J6_bitCount_0f7a4 g a x4) then f_X6_countKept_44 (f_X6_countKept_24 n) g a x1 x2 x3 x4 0 else f_X6_countKept_44 (f_X6_countKept_24 n) g a x1 x2 x3 x4 1)) := rfl
def f_X6_countKept (g : xG) (a : xA) (v1 : Int32) : Option (Int32 × xG × xA) := f_X6_countKept_24 fu g a v1 0 (if 512 < ((1 : Int32) <<< ((t_X4_power g a v1) &&& 31)) then 512 else ((1 : Int32) <<< ((t_X4_power g a v1) &&& 31))) 0
set_option maxRecDepth 100000 in
set_option maxHeartbeats 40000000 in
theorem c_X6_countKept (l : Launch) (E : xE) (g : xG) (a : xA) (v1 : Int32) {res : Int32 × xG × xA} (hf : f_X6_countKept g a v1 = some res) : xM l E yX6_countKept cX6_countKept 7 (some .int) 5 116 [.ref (E.2.1 10), .int v1] (wX E g a) (xQi E res.1 (wX E res.2.1 res.2.2)) := by
  unfold f_X6_countKept at hf
  refine xM_of (by decide) (Nat.le_of_ble_eq_true rfl) ?_
  intro p e s m below meth c A hx hb hr hml hts hown hlocks hA hD hP hK hN hS ls hl
  have hw : ∀ w ∈ BW, w.before _ s = true := fun w h => hts w (List.mem_cons_of_mem _ h)
  have C0 : xCtx E p m c cX6_countKept 7 s _ RX6 A yX6_countKept cX6_countKept 7 (some .int) := ⟨hx, hb, hml, hown, hts, hA, hK, hN⟩
  have hl : lv_has ls 7 [(0, .ref (E.2.1 10)), (1, .int v1)] := hl
  have B67 : ∀ (K24 : xG → xA → Int32 → Int32 → Int32 → Int32 → Option (Int32 × xG × xA)) (hK24 : ∀ (g : xG) (a : xA) (x1 : Int32) (x2 : Int32) (x3 : Int32) (x4 : Int32) (H : Heap) (locs : List Loc) (ls : Array Slot), va_P E.1 vwCl (wX E g a) H → va_S A s.heap H locs → lv_has ls 7 [(0, .ref (E.2.1 10)), (1, .int x1), (2, .int x2), (3, .int x3), (4, .int x4)] → K24 g a x1 x2 x3 x4 = some res → W p l e ({ frames := 5, cells := 0, slots := 0, locals := 116 }) s m ([.ref (E.2.1 10), .int v1] : List Value).toArray below meth c H locs 0 0 (MQ below ((xQi E res.1 (wX E res.2.1 res.2.2)) A) ([.ref (E.2.1 10), .int v1] : List Value).toArray s 0 0 A) (F0 m 24 ls [])) (g : xG) (a : xA) (x1 : Int32) (x2 : Int32) (x3 : Int32) (x4 : Int32) (s0 : Int32) (H : Heap) (locs : List Loc) (ls : Array Slot), va_P E.1 vwCl (wX E g a) H → va_S A s.heap H locs → lv_has ls 7 [(0, .ref (E.2.1 10)), (1, .int x1), (2, .int x2), (3, .int x3), (4, .int x4)] → f_X6_countKept_67 K24 g a x1 x2 x3 x4 s0 = some res → W p l e ({ frames := 5, cells := 0, slots := 0, locals := 116 }) s m ([.ref (E.2.1 10), .int v1] : List Value).toArray below meth c H locs 0 0 (MQ below ((xQi E res.1 (wX E res.2.1 res.2.2)) A) ([.ref (E.2.1 10), .int v1] : List Value).toArray s 0 0 A) (F0 m 67 ls [.int s0]) := by
    intro K24 hK24 g a x1 x2 x3 x4 s0 H locs ls hP hS hl hf
    unfold f_X6_countKept_67 at hf
    refine lv_istore (lv' := [(6, .int s0), (0, .ref (E.2.1 10)), (1, .int x1), (2, .int x2), (3, .int x3), (4, .int x4)]) hx hb dX6_countKept_67 hl (by decide) rfl (fun ls hl => ?_)
    refine lv_aload_n hx hb dX6_countKept_69 rfl (lv_at hl 1 rfl) ?_
    refine va_get (C := RX6) (T := TX6) (N := 5) hx hb hw bfX60 hown hK hP 10 (gx_10 E g a) rfl 4 (by decide) (hw _ bw441) (fun _ h9 => h9) rfl dX6_countKept_70 ?_
    refine lv_iload hx hb dX6_countKept_73 (lv_at hl 5 rfl) ?_
    refine lv_iload hx hb dX6_countKept_75 (lv_at hl 0 rfl) ?_
    refine xcv (xRunN (rest := []) (As := [.ref (E.2.1 12), .int x4, .int s0]) (k := 3) C0 (c_put l E (wX E g a) 12 x4 s0 (gx_12 E g a) (Nat.le_of_ble_eq_true rfl) (sx_a12 E g a (putF 512 (a 12) x4 s0))) bw14 nw14 bw13 bw23 hd_X11_put ⟨Nat.le_of_ble_eq_true rfl, Nat.le_of_ble_eq_true rfl⟩ hP (wX_D hD) hS rfl hl.1 rfl (Nat.le_of_ble_eq_true rfl) dX6_countKept_77 ⟨Nat.zero_le _, Nat.zero_le _⟩) hS (fun H locs hP hS => ?_)
    refine lv_iload hx hb dX6_countKept_80 (lv_at hl 0 rfl) ?_
    refine lv_iload hx hb dX6_countKept_82 (lv_at hl 5 rfl) ?_
    refine lv_iconst (v := (-1)) hx hb dX6_countKept_84 (by decide) ?_
    refine lv_ixor hx hb dX6_countKept_85 ?_
    refine lv_iand hx hb dX6_countKept_86 ?_
    refine lv_if_ne (tgt := 93) hx hb dX6_countKept_87 (by decide) (fun c8 => ?_) (fun c8 => ?_)
    · replace hf := (if_neg c8).symm.trans hf
      refine lv_iinc (v := (x4 + 1)) (lv' := [(4, .int (x4 + 1)), (6, .int s0), (0, .ref (E.2.1 10)), (1, .int x1), (2, .int x2), (3, .int x3)]) hx hb dX6_countKept_93 hl (k := 5) rfl rfl (by decide) rfl (fun ls hl => ?_)
      refine lv_goto (tgt := 24) hx hb dX6_countKept_96 (by decide) ?_
      exact hK24 g (upA a 12 (putF 512 (a 12) x4 s0)) x1 x2 x3 (x4 + 1) _ _ _ hP hS (lv_sub hl [2, 3, 4, 5, 0] rfl) hf
    · replace hf := (if_pos c8).symm.trans hf
      refine lv_iinc (v := (x2 + 1)) (lv' := [(2, .int (x2 + 1)), (6, .int s0), (0, .ref (E.2.1 10)), (1, .int x1), (3, .int x3), (4, .int x4)]) hx hb dX6_countKept_90 hl (k := 3) rfl rfl (by decide) rfl (fun ls hl => ?_)
      refine lv_iinc (v := (x4 + 1)) (lv' := [(4, .int (x4 + 1)), (2, .int (x2 + 1)), (6, .int s0), (0, .ref (E.2.1 10)), (1, .int x1), (3, .int x3)]) hx hb dX6_countKept_93 hl (k := 5) rfl rfl (by decide) rfl (fun ls hl => ?_)
      refine lv_goto (tgt := 24) hx hb dX6_countKept_96 (by decide) ?_
      exact hK24 g (upA a 12 (putF 512 (a 12) x4 s0)) x1 (x2 + 1) x3 (x4 + 1) _ _ _ hP hS (lv_sub hl [3, 4, 1, 5, 0] rfl) hf
  have B44 : ∀ (K24 : xG → xA → Int32 → Int32 → Int32 → Int32 → Option (Int32 × xG × xA)) (hK24 : ∀ (g : xG) (a : xA) (x1 : Int32) (x2 : Int32) (x3 : Int32) (x4 : Int32) (H : Heap) (locs : List Loc) (ls : Array Slot), va_P E.1 vwCl (wX E g a) H → va_S A s.heap H locs → lv_has ls 7 [(0, .ref (E.2.1 10)), (1, .int x1), (2, .int x2), (3, .int x3), (4, .int x4)] → K24 g a x1 x2 x3 x4 = some res → W p l e ({ frames := 5, cells := 0, slots := 0, locals := 116 }) s m ([.ref (E.2.1 10), .int v1] : List Value).toArray below meth c H locs 0 0 (MQ below ((xQi E res.1 (wX E res.2.1 res.2.2)) A) ([.ref (E.2.1 10), .int v1] : List Value).toArray s 0 0 A) (F0 m 24 ls [])) (g : xG) (a : xA) (x1 : Int32) (x2 : Int32) (x3 : Int32) (x4 : Int32) (s0 : Int32) (H : Heap) (locs : List Loc) (ls : Array Slot), va_P E.1 vwCl (wX E g a) H → va_S A s.heap H locs → lv_has ls 7 [(0, .ref (E.2.1 10)), (1, .int x1), (2, .int x2), (3, .int x3), (4, .int x4)] → f_X6_countKept_44 K24 g a x1 x2 x3 x4 s0 = some res → W p l e ({ frames := 5, cells := 0, slots := 0, locals := 116 }) s m ([.ref (E.2.1 10), .int v1] : List Value).toArray below meth c H locs 0 0 (MQ below ((xQi E res.1 (wX E res.2.1 res.2.2)) A) ([.ref (E.2.1 10), .int v1] : List Value).toArray s 0 0 A) (F0 m 44 ls [.int s0]) := by
    intro K24 hK24 g a x1 x2 x3 x4 s0 H locs ls hP hS hl hf
    unfold f_X6_countKept_44 at hf
    refine lv_istore (lv' := [(5, .int s0), (0, .ref (E.2.1 10)), (1, .int x1), (2, .int x2), (3, .int x3), (4, .int x4)]) hx hb dX6_countKept_44 hl (by decide) rfl (fun ls hl => ?_)
    refine lv_iload hx hb dX6_countKept_46 (lv_at hl 0 rfl) ?_
    refine lv_if_eq (tgt := 61) hx hb dX6_countKept_48 (by decide) (fun c3 => ?_) (fun c3 => ?_)
    · replace hf := (if_pos c3).symm.trans hf
      refine lv_aload_n hx hb dX6_countKept_61 rfl (lv_at hl 1 rfl) ?_
      refine lv_iload hx hb dX6_countKept_62 (lv_at hl 5 rfl) ?_
      obtain ⟨u4, e5, hf⟩ := bd_some hf
      refine xci (xRunV (rest := []) (As := [.int x4]) (C := RX6) (k := 1) C0 (c_X6_madeOfParts l E g a x4 e5) bw466 bw472 bw450 bw473 bw474 hd_X6_madeOfParts ⟨Nat.le_of_ble_eq_true rfl, Nat.le_of_ble_eq_true rfl⟩ hP (wX_D hD) hS (va_recv hK hP (ci := 6) rfl (gx_10 E g a)) rfl hl.1 rfl (Nat.le_of_ble_eq_true rfl) dX6_countKept_64 ⟨Nat.zero_le _, Nat.zero_le _⟩) hS (fun H locs hP hS => ?_)
      exact B67 K24 hK24 g a x1 x2 x3 x4 u4 _ _ _ hP hS (lv_sub hl [1, 2, 3, 4, 5] rfl) hf
    · replace hf := (if_neg c3).symm.trans hf
      refine lv_aload_n hx hb dX6_countKept_51 rfl (lv_at hl 1 rfl) ?_
      refine lv_iload_n hx hb dX6_countKept_52 rfl (lv_at hl 2 rfl) ?_
      refine lv_iload hx hb dX6_countKept_53 (lv_at hl 5 rfl) ?_
      obtain ⟨u6, e7, hf⟩ := bd_some hf
      refine xci (xRunV (rest := []) (As := [.int x1, .int x4]) (C := RX6) (k := 2) C0 (c_X6_imagesOfAll l E g a x1 x4 e7) bw465 bw469 bw450 bw470 bw471 hd_X6_imagesOfAll ⟨Nat.le_of_ble_eq_true rfl, Nat.le_of_ble_eq_true rfl⟩ hP (wX_D hD) hS (va_recv hK hP (ci := 6) rfl (gx_10 E g a)) rfl hl.1 rfl (Nat.le_of_ble_eq_true rfl) dX6_countKept_55 ⟨Nat.zero_le _, Nat.zero_le _⟩) hS (fun H locs hP hS => ?_)
      refine lv_goto (tgt := 67) hx hb dX6_countKept_58 (by decide) ?_
      exact B67 K24 hK24 u6.2.1 u6.2.2 x1 x2 x3 x4 u6.1 _ _ _ hP hS (lv_sub hl [1, 2, 3, 4, 5] rfl) hf
  have B24 : ∀ (n : Nat) (g : xG) (a : xA) (x1 : Int32) (x2 : Int32) (x3 : Int32) (x4 : Int32) (H : Heap) (locs : List Loc) (ls : Array Slot), va_P E.1 vwCl (wX E g a) H → va_S A s.heap H locs → lv_has ls 7 [(0, .ref (E.2.1 10)), (1, .int x1), (2, .int x2), (3, .int x3), (4, .int x4)] → f_X6_countKept_24 n g a x1 x2 x3 x4 = some res → W p l e ({ frames := 5, cells := 0, slots := 0, locals := 116 }) s m ([.ref (E.2.1 10), .int v1] : List Value).toArray below meth c H locs 0 0 (MQ below ((xQi E res.1 (wX E res.2.1 res.2.2)) A) ([.ref (E.2.1 10), .int v1] : List Value).toArray s 0 0 A) (F0 m 24 ls []) := by
    intro n
    induction n with
    | zero => intro g a x1 x2 x3 x4 H locs ls hP hS hl hf; exact absurd (show (none : Option (Int32 × xG × xA)) = some res from hf) (by intro h; cases h)
    | succ n ih =>
      intro g a x1 x2 x3 x4 H locs ls hP hS hl hf
      replace hf := (e_X6_countKept_24 n g a x1 x2 x3 x4).symm.trans hf
      refine lv_iload hx hb dX6_countKept_24 (lv_at hl 4 rfl) ?_
      refine lv_iload_n hx hb dX6_countKept_26 rfl (lv_at hl 3 rfl) ?_
      refine lv_icmp_ge (tgt := 99) hx hb dX6_countKept_27 (by decide) (fun c1 => ?_) (fun c1 => ?_)
      · replace hf := (if_pos c1).symm.trans hf
        refine lv_iload_n hx hb dX6_countKept_99 rfl (lv_at hl 2 rfl) ?_
        exact xi_retS (fr := (fun r => r.1)) (fw := (fun r => wX E r.2.1 r.2.2)) hx hb hr hlocks (Option.some.inj hf) hP hS dX6_countKept_100
      · replace hf := (if_neg c1).symm.trans hf
        refine lv_iload hx hb dX6_countKept_30 (lv_at hl 4 rfl) ?_
        refine xci (xRunS (rest := []) (As := [.int x4]) (k := 1) C0 (c_J6_bitCount_0f7a4 l E g a x4) bw355 bw468 bw362 bw361 hd_J6_bitCount_0f7a4 ⟨Nat.le_of_ble_eq_true rfl, Nat.le_of_ble_eq_true rfl⟩ hP (wX_D hD) hS rfl hl.1 rfl (Nat.le_of_ble_eq_true rfl) dX6_countKept_32 ⟨Nat.zero_le _, Nat.zero_le _⟩) hS (fun H locs hP hS => ?_)
        refine lv_iconst (v := 3) hx hb dX6_countKept_35 (by decide) ?_
        refine lv_icmp_gt (tgt := 43) hx hb dX6_countKept_36 (by decide) (fun c2 => ?_) (fun c2 => ?_)
        · replace hf := (if_pos c2).symm.trans hf
          refine lv_iconst (v := 0) hx hb dX6_countKept_43 (by decide) ?_
          exact B44 (f_X6_countKept_24 n) ih g a x1 x2 x3 x4 0 _ _ _ hP hS (lv_sub hl [0, 1, 2, 3, 4] rfl) hf
        · replace hf := (if_neg c2).symm.trans hf
          refine lv_iconst (v := 1) hx hb dX6_countKept_39 (by decide) ?_
          refine lv_goto (tgt := 44) hx hb dX6_countKept_40 (by decide) ?_
          exact B44 (f_X6_countKept_24 n) ih g a x1 x2 x3 x4 1 _ _ _ hP hS (lv_sub hl [0, 1, 2, 3, 4] rfl) hf
  refine lv_iconst (v := 0) hx hb dX6_countKept_0 (by decide) ?_
  refine lv_istore_n (lv' := [(2, .int 0), (0, .ref (E.2.1 10)), (1, .int v1)]) hx hb dX6_countKept_1 rfl hl (by decide) rfl (fun ls hl => ?_)
  refine lv_iconst (v := 1) hx hb dX6_countKept_2 (by decide) ?_
  refine lv_aload_n hx hb dX6_countKept_3 rfl (lv_at hl 1 rfl) ?_
  refine va_get (C := RX6) (T := TX6) (N := 5) hx hb hw bfX60 hown hK hP 10 (gx_10 E g a) rfl 1 (by decide) (hw _ bw442) (fun _ h9 => h9) rfl dX6_countKept_4 ?_
  refine lv_iload_n hx hb dX6_countKept_7 rfl (lv_at hl 2 rfl) ?_
  refine xci (xRunV (rest := [.int 1]) (As := [.int v1]) (C := RX4) (k := 1) C0 (c_X4_power l E g a v1) bw55 bw459 bw22 bw58 bw59 hd_X4_power ⟨Nat.le_of_ble_eq_true rfl, Nat.le_of_ble_eq_true rfl⟩ hP (wX_D hD) hS (va_recv hK hP (ci := 4) rfl (gx_1 E g a)) rfl hl.1 rfl (Nat.le_of_ble_eq_true rfl) dX6_countKept_8 ⟨Nat.zero_le _, Nat.zero_le _⟩) hS (fun H locs hP hS => ?_)
  refine lv_ishl hx hb dX6_countKept_11 ?_
  refine lv_aload_n hx hb dX6_countKept_12 rfl (lv_at hl 1 rfl) ?_
  refine va_get (C := RX6) (T := TX6) (N := 5) hx hb hw bfX60 hown hK hP 10 (gx_10 E g a) rfl 4 (by decide) (hw _ bw441) (fun _ h9 => h9) rfl dX6_countKept_13 ?_
  refine va_alen (v := 512) hx hb hK hP 12 0 (gx_12 E g a) rfl rfl dX6_countKept_16 ?_
  refine va_mmin hx hb (hml.trans hl.1.symm) hown (hw _ bw467) (hw _ bw123) (hw _ bw124) (hw _ bw125) (Nat.le_of_ble_eq_true rfl) (Nat.le_of_ble_eq_true rfl) (Nat.zero_le _) (Nat.zero_le _) dX6_countKept_17 ?_
  refine lv_istore_n (lv' := [(3, .int (if 512 < ((1 : Int32) <<< ((t_X4_power g a v1) &&& 31)) then 512 else ((1 : Int32) <<< ((t_X4_power g a v1) &&& 31)))), (2, .int 0), (0, .ref (E.2.1 10)), (1, .int v1)]) hx hb dX6_countKept_20 rfl hl (by decide) rfl (fun ls hl => ?_)
  refine lv_iconst (v := 0) hx hb dX6_countKept_21 (by decide) ?_
  refine lv_istore (lv' := [(4, .int 0), (3, .int (if 512 < ((1 : Int32) <<< ((t_X4_power g a v1) &&& 31)) then 512 else ((1 : Int32) <<< ((t_X4_power g a v1) &&& 31)))), (2, .int 0), (0, .ref (E.2.1 10)), (1, .int v1)]) hx hb dX6_countKept_22 hl (by decide) rfl (fun ls hl => ?_)
  exact B24 fu g a v1 0 (if 512 < ((1 : Int32) <<< ((t_X4_power g a v1) &&& 31)) then 512 else ((1 : Int32) <<< ((t_X4_power g a v1) &&& 31))) 0 _ _ _ hP hS (lv_sub hl [3, 4, 2, 1, 0] rfl) hf
def f_X7_valuesWith_3 (g : xG) (a : xA) : Nat → Int32 → Int32 → Int32 → Int32 → Option (Int32)
  | 0, _, _, _, _ => none
  | n + 1, x1, x2, x3, x4 => (if (t_X2_placesOf 1 g a x1) ≤ x4 then some (t_X4_allValues g a) else (if (t_X2_variableOn 1 g a x1 x4) = x3 then some ((1 : Int32) <<< ((t_X4_digit g a x2 x4) &&& 31)) else f_X7_valuesWith_3 g a n x1 x2 x3 (x4 + 1)))
theorem e_X7_valuesWith_3 (g : xG) (a : xA) (n : Nat) (x1 : Int32) (x2 : Int32) (x3 : Int32) (x4 : Int32) : f_X7_valuesWith_3 g a (n + 1) x1 x2 x3 x4 = (if (t_X2_placesOf 1 g a x1) ≤ x4 then some (t_X4_allValues g a) else (if (t_X2_variableOn 1 g a x1 x4) = x3 then some ((1 : Int32) <<< ((t_X4_digit g a x2 x4) &&& 31)) else f_X7_valuesWith_3 g a n x1 x2 x3 (x4 + 1))) := rfl
def f_X7_valuesWith (g : xG) (a : xA) (v1 : Int32) (v2 : Int32) (v3 : Int32) : Option (Int32) := f_X7_valuesWith_3 g a fu v1 v2 v3 0
set_option maxRecDepth 100000 in
set_option maxHeartbeats 40000000 in
theorem c_X7_valuesWith (l : Launch) (E : xE) (g : xG) (a : xA) (v1 : Int32) (v2 : Int32) (v3 : Int32) {res : Int32} (hf : f_X7_valuesWith g a v1 v2 v3 = some res) : xM l E yX7_valuesWith cX7_valuesWith 5 (some .int) 2 43 [.ref (E.2.1 38), .int v1, .int v2, .int v3] (wX E g a) (xQi E res (wX E g a)) := by
  unfold f_X7_valuesWith at hf
  refine xM_of (by decide) (Nat.le_of_ble_eq_true rfl) ?_
  intro p e s m below meth c A hx hb hr hml hts hown hlocks hA hD hP hK hN hS ls hl
  have hw : ∀ w ∈ BW, w.before _ s = true := fun w h => hts w (List.mem_cons_of_mem _ h)
  have C0 : xCtx E p m c cX7_valuesWith 5 s _ RX7 A yX7_valuesWith cX7_valuesWith 5 (some .int) := ⟨hx, hb, hml, hown, hts, hA, hK, hN⟩
  have hl : lv_has ls 5 [(0, .ref (E.2.1 38)), (1, .int v1), (2, .int v2), (3, .int v3)] := hl
  have B3 : ∀ (n : Nat) (x1 : Int32) (x2 : Int32) (x3 : Int32) (x4 : Int32) (H : Heap) (locs : List Loc) (ls : Array Slot), va_P E.1 vwCl (wX E g a) H → va_S A s.heap H locs → lv_has ls 5 [(0, .ref (E.2.1 38)), (1, .int x1), (2, .int x2), (3, .int x3), (4, .int x4)] → f_X7_valuesWith_3 g a n x1 x2 x3 x4 = some res → W p l e ({ frames := 2, cells := 0, slots := 0, locals := 43 }) s m ([.ref (E.2.1 38), .int v1, .int v2, .int v3] : List Value).toArray below meth c H locs 0 0 (MQ below ((xQi E res (wX E g a)) A) ([.ref (E.2.1 38), .int v1, .int v2, .int v3] : List Value).toArray s 0 0 A) (F0 m 3 ls []) := by
    intro n
    induction n with
    | zero => intro x1 x2 x3 x4 H locs ls hP hS hl hf; exact absurd (show (none : Option (Int32)) = some res from hf) (by intro h; cases h)
    | succ n ih =>
      intro x1 x2 x3 x4 H locs ls hP hS hl hf
      replace hf := (e_X7_valuesWith_3 g a n x1 x2 x3 x4).symm.trans hf
      refine lv_iload hx hb dX7_valuesWith_3 (lv_at hl 4 rfl) ?_
      refine lv_aload_n hx hb dX7_valuesWith_5 rfl (lv_at hl 0 rfl) ?_
      refine va_get (C := RX7) (T := TX7) (N := 3) hx hb hw bfX70 hown hK hP 38 (gx_38 E g a) rfl 1 (by decide) (hw _ bw480) (fun _ h9 => h9) rfl dX7_valuesWith_6 ?_
      refine lv_iload_n hx hb dX7_valuesWith_9 rfl (lv_at hl 1 rfl) ?_
      refine xci (xRunV (rest := [.int x4]) (As := [.int x1]) (C := RX2) (k := 1) C0 (c_X2_placesOf l E 1 (by decide) g a x1) bw119 bw481 bw86 bw127 bw128 hd_X2_placesOf ⟨Nat.le_of_ble_eq_true rfl, Nat.le_of_ble_eq_true rfl⟩ hP (wX_D hD) hS (va_recv hK hP (ci := 2) rfl (gx_31 E g a)) rfl hl.1 rfl (Nat.le_of_ble_eq_true rfl) dX7_valuesWith_10 ⟨Nat.zero_le _, Nat.zero_le _⟩) hS (fun H locs hP hS => ?_)
      refine lv_icmp_ge (tgt := 49) hx hb dX7_valuesWith_13 (by decide) (fun c1 => ?_) (fun c1 => ?_)
      · replace hf := (if_pos c1).symm.trans hf
        refine lv_aload_n hx hb dX7_valuesWith_49 rfl (lv_at hl 0 rfl) ?_
        refine va_get (C := RX7) (T := TX7) (N := 3) hx hb hw bfX70 hown hK hP 38 (gx_38 E g a) rfl 0 (by decide) (hw _ bw479) (fun _ h9 => h9) rfl dX7_valuesWith_50 ?_
        refine xci (xRunV (rest := []) (As := []) (C := RX4) (k := 0) C0 (c_X4_allValues l E g a) bw169 bw484 bw22 bw172 bw173 hd_X4_allValues ⟨Nat.le_of_ble_eq_true rfl, Nat.le_of_ble_eq_true rfl⟩ hP (wX_D hD) hS (va_recv hK hP (ci := 4) rfl (gx_1 E g a)) rfl hl.1 rfl (Nat.le_of_ble_eq_true rfl) dX7_valuesWith_53 ⟨Nat.zero_le _, Nat.zero_le _⟩) hS (fun H locs hP hS => ?_)
        exact xi_retS (fr := (fun r => r)) (fw := (fun r => wX E g a)) hx hb hr hlocks (Option.some.inj hf) hP hS dX7_valuesWith_56
      · replace hf := (if_neg c1).symm.trans hf
        refine lv_aload_n hx hb dX7_valuesWith_16 rfl (lv_at hl 0 rfl) ?_
        refine va_get (C := RX7) (T := TX7) (N := 3) hx hb hw bfX70 hown hK hP 38 (gx_38 E g a) rfl 1 (by decide) (hw _ bw480) (fun _ h9 => h9) rfl dX7_valuesWith_17 ?_
        refine lv_iload_n hx hb dX7_valuesWith_20 rfl (lv_at hl 1 rfl) ?_
        refine lv_iload hx hb dX7_valuesWith_21 (lv_at hl 4 rfl) ?_
        refine xci (xRunV (rest := []) (As := [.int x1, .int x4]) (C := RX2) (k := 2) C0 (c_X2_variableOn l E 1 (by decide) g a x1 x4) bw120 bw482 bw86 bw130 bw131 hd_X2_variableOn ⟨Nat.le_of_ble_eq_true rfl, Nat.le_of_ble_eq_true rfl⟩ hP (wX_D hD) hS (va_recv hK hP (ci := 2) rfl (gx_31 E g a)) rfl hl.1 rfl (Nat.le_of_ble_eq_true rfl) dX7_valuesWith_23 ⟨Nat.zero_le _, Nat.zero_le _⟩) hS (fun H locs hP hS => ?_)
        refine lv_iload_n hx hb dX7_valuesWith_26 rfl (lv_at hl 3 rfl) ?_
        refine lv_icmp_ne (tgt := 43) hx hb dX7_valuesWith_27 (by decide) (fun c2 => ?_) (fun c2 => ?_)
        · replace hf := (if_neg c2).symm.trans hf
          refine lv_iinc (v := (x4 + 1)) (lv' := [(4, .int (x4 + 1)), (0, .ref (E.2.1 38)), (1, .int x1), (2, .int x2), (3, .int x3)]) hx hb dX7_valuesWith_43 hl (k := 4) rfl rfl (by decide) rfl (fun ls hl => ?_)
          refine lv_goto (tgt := 3) hx hb dX7_valuesWith_46 (by decide) ?_
          exact ih x1 x2 x3 (x4 + 1) _ _ _ hP hS (lv_sub hl [1, 2, 3, 4, 0] rfl) hf
        · replace hf := (if_pos c2).symm.trans hf
          refine lv_iconst (v := 1) hx hb dX7_valuesWith_30 (by decide) ?_
          refine lv_aload_n hx hb dX7_valuesWith_31 rfl (lv_at hl 0 rfl) ?_
          refine va_get (C := RX7) (T := TX7) (N := 3) hx hb hw bfX70 hown hK hP 38 (gx_38 E g a) rfl 0 (by decide) (hw _ bw479) (fun _ h9 => h9) rfl dX7_valuesWith_32 ?_
          refine lv_iload_n hx hb dX7_valuesWith_35 rfl (lv_at hl 2 rfl) ?_
          refine lv_iload hx hb dX7_valuesWith_36 (lv_at hl 4 rfl) ?_
          refine xci (xRunV (rest := [.int 1]) (As := [.int x2, .int x4]) (C := RX4) (k := 2) C0 (c_X4_digit l E g a x2 x4) bw174 bw483 bw22 bw199 bw200 hd_X4_digit ⟨Nat.le_of_ble_eq_true rfl, Nat.le_of_ble_eq_true rfl⟩ hP (wX_D hD) hS (va_recv hK hP (ci := 4) rfl (gx_1 E g a)) rfl hl.1 rfl (Nat.le_of_ble_eq_true rfl) dX7_valuesWith_38 ⟨Nat.zero_le _, Nat.zero_le _⟩) hS (fun H locs hP hS => ?_)
          refine lv_ishl hx hb dX7_valuesWith_41 ?_
          exact xi_retS (fr := (fun r => r)) (fw := (fun r => wX E g a)) hx hb hr hlocks (Option.some.inj hf) hP hS dX7_valuesWith_42
  refine lv_iconst (v := 0) hx hb dX7_valuesWith_0 (by decide) ?_
  refine lv_istore (lv' := [(4, .int 0), (0, .ref (E.2.1 38)), (1, .int v1), (2, .int v2), (3, .int v3)]) hx hb dX7_valuesWith_1 hl (by decide) rfl (fun ls hl => ?_)
  exact B3 fu v1 v2 v3 0 _ _ _ hP hS (lv_sub hl [1, 2, 3, 4, 0] rfl) hf
def t_X7_leftOf (g : xG) (a : xA) (v1 : Int32) (v2 : Int32) : Int32 := (atF 36 (a 39) ((6 * v1) + v2))
set_option maxRecDepth 100000 in
set_option maxHeartbeats 40000000 in
theorem c_X7_leftOf (l : Launch) (E : xE) (g : xG) (a : xA) (v1 : Int32) (v2 : Int32) : xM l E yX7_leftOf cX7_leftOf 3 (some .int) 1 21 [.ref (E.2.1 38), .int v1, .int v2] (wX E g a) (xQi E (t_X7_leftOf g a v1 v2) (wX E g a)) := by
  obtain ⟨res, hres⟩ : ∃ z, z = t_X7_leftOf g a v1 v2 := ⟨_, rfl⟩
  rw [← hres]
  have hf : _ = res := hres.symm
  unfold t_X7_leftOf at hf
  refine xM_of (by decide) (Nat.le_of_ble_eq_true rfl) ?_
  intro p e s m below meth c A hx hb hr hml hts hown hlocks hA hD hP hK hN hS ls hl
  have hw : ∀ w ∈ BW, w.before _ s = true := fun w h => hts w (List.mem_cons_of_mem _ h)
  have C0 : xCtx E p m c cX7_leftOf 3 s _ RX7 A yX7_leftOf cX7_leftOf 3 (some .int) := ⟨hx, hb, hml, hown, hts, hA, hK, hN⟩
  have hl : lv_has ls 3 [(0, .ref (E.2.1 38)), (1, .int v1), (2, .int v2)] := hl
  refine lv_aload_n hx hb dX7_leftOf_0 rfl (lv_at hl 0 rfl) ?_
  refine va_get (C := RX7) (T := TX7) (N := 3) hx hb hw bfX70 hown hK hP 38 (gx_38 E g a) rfl 2 (by decide) (hw _ bw478) (fun _ h9 => h9) rfl dX7_leftOf_1 ?_
  refine lv_bipush (v := 6) hx hb dX7_leftOf_4 (by decide) ?_
  refine lv_iload_n hx hb dX7_leftOf_6 rfl (lv_at hl 1 rfl) ?_
  refine lv_imul hx hb dX7_leftOf_7 ?_
  refine lv_iload_n hx hb dX7_leftOf_8 rfl (lv_at hl 2 rfl) ?_
  refine lv_iadd hx hb dX7_leftOf_9 ?_
  refine xci (xRunN (rest := []) (As := [.ref (E.2.1 39), .int ((6 * v1) + v2)]) (k := 2) C0 (c_at l E (wX E g a) 39 ((6 * v1) + v2) (gx_39 E g a) (Nat.le_of_ble_eq_true rfl)) bw9 nw17 bw13 bw12 hd_X11_at ⟨Nat.le_of_ble_eq_true rfl, Nat.le_of_ble_eq_true rfl⟩ hP (wX_D hD) hS rfl hl.1 rfl (Nat.le_of_ble_eq_true rfl) dX7_leftOf_10 ⟨Nat.zero_le _, Nat.zero_le _⟩) hS (fun H locs hP hS => ?_)
  exact xi_retS (fr := (fun r => r)) (fw := (fun r => wX E g a)) hx hb hr hlocks hf hP hS dX7_leftOf_13
def t_X7_setLeft (g : xG) (a : xA) (v1 : Int32) (v2 : Int32) (v3 : Int32) : xA := (upA a 39 (putF 36 (a 39) ((6 * v1) + v2) v3))
set_option maxRecDepth 100000 in
set_option maxHeartbeats 40000000 in
theorem c_X7_setLeft (l : Launch) (E : xE) (g : xG) (a : xA) (v1 : Int32) (v2 : Int32) (v3 : Int32) : xM l E yX7_setLeft cX7_setLeft 4 none 1 22 [.ref (E.2.1 38), .int v1, .int v2, .int v3] (wX E g a) (xQv E (wX E g (t_X7_setLeft g a v1 v2 v3))) := by
  obtain ⟨res, hres⟩ : ∃ z, z = t_X7_setLeft g a v1 v2 v3 := ⟨_, rfl⟩
  rw [← hres]
  have hf : _ = res := hres.symm
  unfold t_X7_setLeft at hf
  refine xM_of (by decide) (Nat.le_of_ble_eq_true rfl) ?_
  intro p e s m below meth c A hx hb hr hml hts hown hlocks hA hD hP hK hN hS ls hl
  have hw : ∀ w ∈ BW, w.before _ s = true := fun w h => hts w (List.mem_cons_of_mem _ h)
  have C0 : xCtx E p m c cX7_setLeft 4 s _ RX7 A yX7_setLeft cX7_setLeft 4 none := ⟨hx, hb, hml, hown, hts, hA, hK, hN⟩
  have hl : lv_has ls 4 [(0, .ref (E.2.1 38)), (1, .int v1), (2, .int v2), (3, .int v3)] := hl
  refine lv_aload_n hx hb dX7_setLeft_0 rfl (lv_at hl 0 rfl) ?_
  refine va_get (C := RX7) (T := TX7) (N := 3) hx hb hw bfX70 hown hK hP 38 (gx_38 E g a) rfl 2 (by decide) (hw _ bw478) (fun _ h9 => h9) rfl dX7_setLeft_1 ?_
  refine lv_bipush (v := 6) hx hb dX7_setLeft_4 (by decide) ?_
  refine lv_iload_n hx hb dX7_setLeft_6 rfl (lv_at hl 1 rfl) ?_
  refine lv_imul hx hb dX7_setLeft_7 ?_
  refine lv_iload_n hx hb dX7_setLeft_8 rfl (lv_at hl 2 rfl) ?_
  refine lv_iadd hx hb dX7_setLeft_9 ?_
  refine lv_iload_n hx hb dX7_setLeft_10 rfl (lv_at hl 3 rfl) ?_
  refine xcv (xRunN (rest := []) (As := [.ref (E.2.1 39), .int ((6 * v1) + v2), .int v3]) (k := 3) C0 (c_put l E (wX E g a) 39 ((6 * v1) + v2) v3 (gx_39 E g a) (Nat.le_of_ble_eq_true rfl) (sx_a39 E g a (putF 36 (a 39) ((6 * v1) + v2) v3))) bw14 nw18 bw13 bw23 hd_X11_put ⟨Nat.le_of_ble_eq_true rfl, Nat.le_of_ble_eq_true rfl⟩ hP (wX_D hD) hS rfl hl.1 rfl (Nat.le_of_ble_eq_true rfl) dX7_setLeft_11 ⟨Nat.zero_le _, Nat.zero_le _⟩) hS (fun H locs hP hS => ?_)
  exact xv_retS (fw := (fun r => wX E g r)) hx hb hr hlocks hf hP hS dX7_setLeft_14
def f_X7_leaveStanding_59 (g : xG) (K6 : xA → Int32 → Int32 → Int32 → Int32 → Int32 → Int32 → Option (xA)) : Nat → xA → Int32 → Int32 → Int32 → Int32 → Int32 → Int32 → Int32 → Int32 → Int32 → Option (xA)
  | 0, _, _, _, _, _, _, _, _, _, _ => none
  | n + 1, a, x1, x2, x3, x4, x5, x6, x7, x8, x9 => (if (g 0) ≤ x9 then K6 a x1 x2 x3 x4 x5 (x6 + 1) else (if (isInF x9 x8) = 0 then f_X7_leaveStanding_59 g K6 n a x1 x2 x3 x4 (x5 ||| 0) x6 x7 x8 (x9 + 1) else f_X7_leaveStanding_59 g K6 n a x1 x2 x3 x4 (x5 ||| ((x7 : Int32) <<< (((g 0) * x9) &&& 31))) x6 x7 x8 (x9 + 1)))
theorem e_X7_leaveStanding_59 (g : xG) (K6 : xA → Int32 → Int32 → Int32 → Int32 → Int32 → Int32 → Option (xA)) (n : Nat) (a : xA) (x1 : Int32) (x2 : Int32) (x3 : Int32) (x4 : Int32) (x5 : Int32) (x6 : Int32) (x7 : Int32) (x8 : Int32) (x9 : Int32) : f_X7_leaveStanding_59 g K6 (n + 1) a x1 x2 x3 x4 x5 x6 x7 x8 x9 = (if (g 0) ≤ x9 then K6 a x1 x2 x3 x4 x5 (x6 + 1) else (if (isInF x9 x8) = 0 then f_X7_leaveStanding_59 g K6 n a x1 x2 x3 x4 (x5 ||| 0) x6 x7 x8 (x9 + 1) else f_X7_leaveStanding_59 g K6 n a x1 x2 x3 x4 (x5 ||| ((x7 : Int32) <<< (((g 0) * x9) &&& 31))) x6 x7 x8 (x9 + 1))) := rfl
def f_X7_leaveStanding_6 (g : xG) : Nat → xA → Int32 → Int32 → Int32 → Int32 → Int32 → Int32 → Option (xA)
  | 0, _, _, _, _, _, _, _ => none
  | n + 1, a, x1, x2, x3, x4, x5, x6 => (if (t_X4_power g a (t_X2_placesOf 1 g a x1)) ≤ x6 then some (t_X7_setLeft g a x3 x4 (x5 &&& (t_X7_leftOf g a x3 x4))) else (if (isInF x6 x2) = 0 then f_X7_leaveStanding_6 g n a x1 x2 x3 x4 x5 (x6 + 1) else Option.bind (f_X7_valuesWith g a x1 x6 x3) (fun u3 => Option.bind (f_X7_valuesWith g a x1 x6 x4) (fun u5 => f_X7_leaveStanding_59 g (f_X7_leaveStanding_6 g n) fu a x1 x2 x3 x4 x5 x6 u3 u5 0))))
theorem e_X7_leaveStanding_6 (g : xG) (n : Nat) (a : xA) (x1 : Int32) (x2 : Int32) (x3 : Int32) (x4 : Int32) (x5 : Int32) (x6 : Int32) : f_X7_leaveStanding_6 g (n + 1) a x1 x2 x3 x4 x5 x6 = (if (t_X4_power g a (t_X2_placesOf 1 g a x1)) ≤ x6 then some (t_X7_setLeft g a x3 x4 (x5 &&& (t_X7_leftOf g a x3 x4))) else (if (isInF x6 x2) = 0 then f_X7_leaveStanding_6 g n a x1 x2 x3 x4 x5 (x6 + 1) else Option.bind (f_X7_valuesWith g a x1 x6 x3) (fun u3 => Option.bind (f_X7_valuesWith g a x1 x6 x4) (fun u5 => f_X7_leaveStanding_59 g (f_X7_leaveStanding_6 g n) fu a x1 x2 x3 x4 x5 x6 u3 u5 0)))) := rfl
def f_X7_leaveStanding (g : xG) (a : xA) (v1 : Int32) (v2 : Int32) (v3 : Int32) (v4 : Int32) : Option (xA) := f_X7_leaveStanding_6 g fu a v1 v2 v3 v4 0 0
set_option maxRecDepth 100000 in
set_option maxHeartbeats 40000000 in
theorem c_X7_leaveStanding (l : Launch) (E : xE) (g : xG) (a : xA) (v1 : Int32) (v2 : Int32) (v3 : Int32) (v4 : Int32) {res : xA} (hf : f_X7_leaveStanding g a v1 v2 v3 v4 = some res) : xM l E yX7_leaveStanding cX7_leaveStanding 10 none 3 67 [.ref (E.2.1 38), .int v1, .int v2, .int v3, .int v4] (wX E g a) (xQv E (wX E g res)) := by
  unfold f_X7_leaveStanding at hf
  refine xM_of (by decide) (Nat.le_of_ble_eq_true rfl) ?_
  intro p e s m below meth c A hx hb hr hml hts hown hlocks hA hD hP hK hN hS ls hl
  have hw : ∀ w ∈ BW, w.before _ s = true := fun w h => hts w (List.mem_cons_of_mem _ h)
  have C0 : xCtx E p m c cX7_leaveStanding 10 s _ RX7 A yX7_leaveStanding cX7_leaveStanding 10 none := ⟨hx, hb, hml, hown, hts, hA, hK, hN⟩
  have hl : lv_has ls 10 [(0, .ref (E.2.1 38)), (1, .int v1), (2, .int v2), (3, .int v3), (4, .int v4)] := hl
  have B59 : ∀ (K6 : xA → Int32 → Int32 → Int32 → Int32 → Int32 → Int32 → Option (xA)) (hK6 : ∀ (a : xA) (x1 : Int32) (x2 : Int32) (x3 : Int32) (x4 : Int32) (x5 : Int32) (x6 : Int32) (H : Heap) (locs : List Loc) (ls : Array Slot), va_P E.1 vwCl (wX E g a) H → va_S A s.heap H locs → lv_has ls 10 [(0, .ref (E.2.1 38)), (1, .int x1), (2, .int x2), (3, .int x3), (4, .int x4), (5, .int x5), (6, .int x6)] → K6 a x1 x2 x3 x4 x5 x6 = some res → W p l e ({ frames := 3, cells := 0, slots := 0, locals := 67 }) s m ([.ref (E.2.1 38), .int v1, .int v2, .int v3, .int v4] : List Value).toArray below meth c H locs 0 0 (MQ below ((xQv E (wX E g res)) A) ([.ref (E.2.1 38), .int v1, .int v2, .int v3, .int v4] : List Value).toArray s 0 0 A) (F0 m 6 ls [])) (n : Nat) (a : xA) (x1 : Int32) (x2 : Int32) (x3 : Int32) (x4 : Int32) (x5 : Int32) (x6 : Int32) (x7 : Int32) (x8 : Int32) (x9 : Int32) (H : Heap) (locs : List Loc) (ls : Array Slot), va_P E.1 vwCl (wX E g a) H → va_S A s.heap H locs → lv_has ls 10 [(0, .ref (E.2.1 38)), (1, .int x1), (2, .int x2), (3, .int x3), (4, .int x4), (5, .int x5), (6, .int x6), (7, .int x7), (8, .int x8), (9, .int x9)] → f_X7_leaveStanding_59 g K6 n a x1 x2 x3 x4 x5 x6 x7 x8 x9 = some res → W p l e ({ frames := 3, cells := 0, slots := 0, locals := 67 }) s m ([.ref (E.2.1 38), .int v1, .int v2, .int v3, .int v4] : List Value).toArray below meth c H locs 0 0 (MQ below ((xQv E (wX E g res)) A) ([.ref (E.2.1 38), .int v1, .int v2, .int v3, .int v4] : List Value).toArray s 0 0 A) (F0 m 59 ls []) := by
    intro K6 hK6 n
    induction n with
    | zero => intro a x1 x2 x3 x4 x5 x6 x7 x8 x9 H locs ls hP hS hl hf; exact absurd (show (none : Option (xA)) = some res from hf) (by intro h; cases h)
    | succ n ih =>
      intro a x1 x2 x3 x4 x5 x6 x7 x8 x9 H locs ls hP hS hl hf
      replace hf := (e_X7_leaveStanding_59 g K6 n a x1 x2 x3 x4 x5 x6 x7 x8 x9).symm.trans hf
      refine lv_iload hx hb dX7_leaveStanding_59 (lv_at hl 9 rfl) ?_
      refine lv_aload_n hx hb dX7_leaveStanding_61 rfl (lv_at hl 0 rfl) ?_
      refine va_get (C := RX7) (T := TX7) (N := 3) hx hb hw bfX70 hown hK hP 38 (gx_38 E g a) rfl 0 (by decide) (hw _ bw479) (fun _ h9 => h9) rfl dX7_leaveStanding_62 ?_
      refine va_get (C := RX4) (T := TX4) (N := 3) hx hb hw bfX40 hown hK hP 1 (gx_1 E g a) rfl 0 (by decide) (hw _ bw488) (fun _ h9 => h9) rfl dX7_leaveStanding_65 ?_
      refine lv_icmp_ge (tgt := 109) hx hb dX7_leaveStanding_68 (by decide) (fun c7 => ?_) (fun c7 => ?_)
      · replace hf := (if_pos c7).symm.trans hf
        refine lv_iinc (v := (x6 + 1)) (lv' := [(6, .int (x6 + 1)), (0, .ref (E.2.1 38)), (1, .int x1), (2, .int x2), (3, .int x3), (4, .int x4), (5, .int x5), (7, .int x7), (8, .int x8), (9, .int x9)]) hx hb dX7_leaveStanding_109 hl (k := 6) rfl rfl (by decide) rfl (fun ls hl => ?_)
        refine lv_goto (tgt := 6) hx hb dX7_leaveStanding_112 (by decide) ?_
        exact hK6 a x1 x2 x3 x4 x5 (x6 + 1) _ _ _ hP hS (lv_sub hl [1, 2, 3, 4, 5, 6, 0] rfl) hf
      · replace hf := (if_neg c7).symm.trans hf
        refine lv_iload hx hb dX7_leaveStanding_71 (lv_at hl 5 rfl) ?_
        refine lv_iload hx hb dX7_leaveStanding_73 (lv_at hl 9 rfl) ?_
        refine lv_iload hx hb dX7_leaveStanding_75 (lv_at hl 8 rfl) ?_
        refine xci (xRunN (rest := [.int x5]) (As := [.int x9, .int x8]) (k := 2) C0 (c_isIn l E (wX E g a) x9 x8) bw8 nw19 bw13 bw18 hd_X11_isIn ⟨Nat.le_of_ble_eq_true rfl, Nat.le_of_ble_eq_true rfl⟩ hP (wX_D hD) hS rfl hl.1 rfl (Nat.le_of_ble_eq_true rfl) dX7_leaveStanding_77 ⟨Nat.zero_le _, Nat.zero_le _⟩) hS (fun H locs hP hS => ?_)
        refine lv_if_eq (tgt := 99) hx hb dX7_leaveStanding_80 (by decide) (fun c8 => ?_) (fun c8 => ?_)
        · replace hf := (if_pos c8).symm.trans hf
          refine lv_iconst (v := 0) hx hb dX7_leaveStanding_99 (by decide) ?_
          refine lv_ior hx hb dX7_leaveStanding_100 ?_
          refine lv_istore (lv' := [(5, .int (x5 ||| 0)), (0, .ref (E.2.1 38)), (1, .int x1), (2, .int x2), (3, .int x3), (4, .int x4), (6, .int x6), (7, .int x7), (8, .int x8), (9, .int x9)]) hx hb dX7_leaveStanding_101 hl (by decide) rfl (fun ls hl => ?_)
          refine lv_iinc (v := (x9 + 1)) (lv' := [(9, .int (x9 + 1)), (5, .int (x5 ||| 0)), (0, .ref (E.2.1 38)), (1, .int x1), (2, .int x2), (3, .int x3), (4, .int x4), (6, .int x6), (7, .int x7), (8, .int x8)]) hx hb dX7_leaveStanding_103 hl (k := 9) rfl rfl (by decide) rfl (fun ls hl => ?_)
          refine lv_goto (tgt := 59) hx hb dX7_leaveStanding_106 (by decide) ?_
          exact ih a x1 x2 x3 x4 (x5 ||| 0) x6 x7 x8 (x9 + 1) _ _ _ hP hS (lv_sub hl [2, 3, 4, 5, 6, 1, 7, 8, 9, 0] rfl) hf
        · replace hf := (if_neg c8).symm.trans hf
          refine lv_iload hx hb dX7_leaveStanding_83 (lv_at hl 7 rfl) ?_
          refine lv_aload_n hx hb dX7_leaveStanding_85 rfl (lv_at hl 0 rfl) ?_
          refine va_get (C := RX7) (T := TX7) (N := 3) hx hb hw bfX70 hown hK hP 38 (gx_38 E g a) rfl 0 (by decide) (hw _ bw479) (fun _ h9 => h9) rfl dX7_leaveStanding_86 ?_
          refine va_get (C := RX4) (T := TX4) (N := 3) hx hb hw bfX40 hown hK hP 1 (gx_1 E g a) rfl 0 (by decide) (hw _ bw488) (fun _ h9 => h9) rfl dX7_leaveStanding_89 ?_
          refine lv_iload hx hb dX7_leaveStanding_92 (lv_at hl 9 rfl) ?_
          refine lv_imul hx hb dX7_leaveStanding_94 ?_
          refine lv_ishl hx hb dX7_leaveStanding_95 ?_
          refine lv_goto (tgt := 100) hx hb dX7_leaveStanding_96 (by decide) ?_
          refine lv_ior hx hb dX7_leaveStanding_100 ?_
          refine lv_istore (lv' := [(5, .int (x5 ||| ((x7 : Int32) <<< (((g 0) * x9) &&& 31)))), (0, .ref (E.2.1 38)), (1, .int x1), (2, .int x2), (3, .int x3), (4, .int x4), (6, .int x6), (7, .int x7), (8, .int x8), (9, .int x9)]) hx hb dX7_leaveStanding_101 hl (by decide) rfl (fun ls hl => ?_)
          refine lv_iinc (v := (x9 + 1)) (lv' := [(9, .int (x9 + 1)), (5, .int (x5 ||| ((x7 : Int32) <<< (((g 0) * x9) &&& 31)))), (0, .ref (E.2.1 38)), (1, .int x1), (2, .int x2), (3, .int x3), (4, .int x4), (6, .int x6), (7, .int x7), (8, .int x8)]) hx hb dX7_leaveStanding_103 hl (k := 9) rfl rfl (by decide) rfl (fun ls hl => ?_)
          refine lv_goto (tgt := 59) hx hb dX7_leaveStanding_106 (by decide) ?_
          exact ih a x1 x2 x3 x4 (x5 ||| ((x7 : Int32) <<< (((g 0) * x9) &&& 31))) x6 x7 x8 (x9 + 1) _ _ _ hP hS (lv_sub hl [2, 3, 4, 5, 6, 1, 7, 8, 9, 0] rfl) hf
  have B6 : ∀ (n : Nat) (a : xA) (x1 : Int32) (x2 : Int32) (x3 : Int32) (x4 : Int32) (x5 : Int32) (x6 : Int32) (H : Heap) (locs : List Loc) (ls : Array Slot), va_P E.1 vwCl (wX E g a) H → va_S A s.heap H locs → lv_has ls 10 [(0, .ref (E.2.1 38)), (1, .int x1), (2, .int x2), (3, .int x3), (4, .int x4), (5, .int x5), (6, .int x6)] → f_X7_leaveStanding_6 g n a x1 x2 x3 x4 x5 x6 = some res → W p l e ({ frames := 3, cells := 0, slots := 0, locals := 67 }) s m ([.ref (E.2.1 38), .int v1, .int v2, .int v3, .int v4] : List Value).toArray below meth c H locs 0 0 (MQ below ((xQv E (wX E g res)) A) ([.ref (E.2.1 38), .int v1, .int v2, .int v3, .int v4] : List Value).toArray s 0 0 A) (F0 m 6 ls []) := by
    intro n
    induction n with
    | zero => intro a x1 x2 x3 x4 x5 x6 H locs ls hP hS hl hf; exact absurd (show (none : Option (xA)) = some res from hf) (by intro h; cases h)
    | succ n ih =>
      intro a x1 x2 x3 x4 x5 x6 H locs ls hP hS hl hf
      replace hf := (e_X7_leaveStanding_6 g n a x1 x2 x3 x4 x5 x6).symm.trans hf
      refine lv_iload hx hb dX7_leaveStanding_6 (lv_at hl 6 rfl) ?_
      refine lv_aload_n hx hb dX7_leaveStanding_8 rfl (lv_at hl 0 rfl) ?_
      refine va_get (C := RX7) (T := TX7) (N := 3) hx hb hw bfX70 hown hK hP 38 (gx_38 E g a) rfl 0 (by decide) (hw _ bw479) (fun _ h9 => h9) rfl dX7_leaveStanding_9 ?_
      refine lv_aload_n hx hb dX7_leaveStanding_12 rfl (lv_at hl 0 rfl) ?_
      refine va_get (C := RX7) (T := TX7) (N := 3) hx hb hw bfX70 hown hK hP 38 (gx_38 E g a) rfl 1 (by decide) (hw _ bw480) (fun _ h9 => h9) rfl dX7_leaveStanding_13 ?_
      refine lv_iload_n hx hb dX7_leaveStanding_16 rfl (lv_at hl 1 rfl) ?_
      refine xci (xRunV (rest := [.ref (E.2.1 1), .int x6]) (As := [.int x1]) (C := RX2) (k := 1) C0 (c_X2_placesOf l E 1 (by decide) g a x1) bw119 bw481 bw86 bw127 bw128 hd_X2_placesOf ⟨Nat.le_of_ble_eq_true rfl, Nat.le_of_ble_eq_true rfl⟩ hP (wX_D hD) hS (va_recv hK hP (ci := 2) rfl (gx_31 E g a)) rfl hl.1 rfl (Nat.le_of_ble_eq_true rfl) dX7_leaveStanding_17 ⟨Nat.zero_le _, Nat.zero_le _⟩) hS (fun H locs hP hS => ?_)
      refine xci (xRunV (rest := [.int x6]) (As := [.int (t_X2_placesOf 1 g a x1)]) (C := RX4) (k := 1) C0 (c_X4_power l E g a (t_X2_placesOf 1 g a x1)) bw55 bw489 bw22 bw58 bw59 hd_X4_power ⟨Nat.le_of_ble_eq_true rfl, Nat.le_of_ble_eq_true rfl⟩ hP (wX_D hD) hS (va_recv hK hP (ci := 4) rfl (gx_1 E g a)) rfl hl.1 rfl (Nat.le_of_ble_eq_true rfl) dX7_leaveStanding_20 ⟨Nat.zero_le _, Nat.zero_le _⟩) hS (fun H locs hP hS => ?_)
      refine lv_icmp_ge (tgt := 115) hx hb dX7_leaveStanding_23 (by decide) (fun c1 => ?_) (fun c1 => ?_)
      · replace hf := (if_pos c1).symm.trans hf
        refine lv_aload_n hx hb dX7_leaveStanding_115 rfl (lv_at hl 0 rfl) ?_
        refine lv_iload_n hx hb dX7_leaveStanding_116 rfl (lv_at hl 3 rfl) ?_
        refine lv_iload hx hb dX7_leaveStanding_117 (lv_at hl 4 rfl) ?_
        refine lv_iload hx hb dX7_leaveStanding_119 (lv_at hl 5 rfl) ?_
        refine lv_aload_n hx hb dX7_leaveStanding_121 rfl (lv_at hl 0 rfl) ?_
        refine lv_iload_n hx hb dX7_leaveStanding_122 rfl (lv_at hl 3 rfl) ?_
        refine lv_iload hx hb dX7_leaveStanding_123 (lv_at hl 4 rfl) ?_
        refine xci (xRunV (rest := [.int x5, .int x4, .int x3, .ref (E.2.1 38)]) (As := [.int x3, .int x4]) (C := RX7) (k := 2) C0 (c_X7_leftOf l E g a x3 x4) bw486 bw494 bw493 bw495 bw496 hd_X7_leftOf ⟨Nat.le_of_ble_eq_true rfl, Nat.le_of_ble_eq_true rfl⟩ hP (wX_D hD) hS (va_recv hK hP (ci := 7) rfl (gx_38 E g a)) rfl hl.1 rfl (Nat.le_of_ble_eq_true rfl) dX7_leaveStanding_125 ⟨Nat.zero_le _, Nat.zero_le _⟩) hS (fun H locs hP hS => ?_)
        refine lv_iand hx hb dX7_leaveStanding_128 ?_
        refine xcv (xRunV (rest := []) (As := [.int x3, .int x4, .int (x5 &&& (t_X7_leftOf g a x3 x4))]) (C := RX7) (k := 3) C0 (c_X7_setLeft l E g a x3 x4 (x5 &&& (t_X7_leftOf g a x3 x4))) bw487 bw497 bw493 bw498 bw499 hd_X7_setLeft ⟨Nat.le_of_ble_eq_true rfl, Nat.le_of_ble_eq_true rfl⟩ hP (wX_D hD) hS (va_recv hK hP (ci := 7) rfl (gx_38 E g a)) rfl hl.1 rfl (Nat.le_of_ble_eq_true rfl) dX7_leaveStanding_129 ⟨Nat.zero_le _, Nat.zero_le _⟩) hS (fun H locs hP hS => ?_)
        exact xv_retS (fw := (fun r => wX E g r)) hx hb hr hlocks (Option.some.inj hf) hP hS dX7_leaveStanding_132
      · replace hf := (if_neg c1).symm.trans hf
        refine lv_iload hx hb dX7_leaveStanding_26 (lv_at hl 6 rfl) ?_
        refine lv_iload_n hx hb dX7_leaveStanding_28 rfl (lv_at hl 2 rfl) ?_
        refine xci (xRunN (rest := []) (As := [.int x6, .int x2]) (k := 2) C0 (c_isIn l E (wX E g a) x6 x2) bw8 nw19 bw13 bw18 hd_X11_isIn ⟨Nat.le_of_ble_eq_true rfl, Nat.le_of_ble_eq_true rfl⟩ hP (wX_D hD) hS rfl hl.1 rfl (Nat.le_of_ble_eq_true rfl) dX7_leaveStanding_29 ⟨Nat.zero_le _, Nat.zero_le _⟩) hS (fun H locs hP hS => ?_)
        refine lv_if_eq (tgt := 109) hx hb dX7_leaveStanding_32 (by decide) (fun c2 => ?_) (fun c2 => ?_)
        · replace hf := (if_pos c2).symm.trans hf
          refine lv_iinc (v := (x6 + 1)) (lv' := [(6, .int (x6 + 1)), (0, .ref (E.2.1 38)), (1, .int x1), (2, .int x2), (3, .int x3), (4, .int x4), (5, .int x5)]) hx hb dX7_leaveStanding_109 hl (k := 6) rfl rfl (by decide) rfl (fun ls hl => ?_)
          refine lv_goto (tgt := 6) hx hb dX7_leaveStanding_112 (by decide) ?_
          exact ih a x1 x2 x3 x4 x5 (x6 + 1) _ _ _ hP hS (lv_sub hl [1, 2, 3, 4, 5, 6, 0] rfl) hf
        · replace hf := (if_neg c2).symm.trans hf
          refine lv_aload_n hx hb dX7_leaveStanding_35 rfl (lv_at hl 0 rfl) ?_
          refine lv_iload_n hx hb dX7_leaveStanding_36 rfl (lv_at hl 1 rfl) ?_
          refine lv_iload hx hb dX7_leaveStanding_37 (lv_at hl 6 rfl) ?_
          refine lv_iload_n hx hb dX7_leaveStanding_39 rfl (lv_at hl 3 rfl) ?_
          obtain ⟨u3, e4, hf⟩ := bd_some hf
          refine xci (xRunV (rest := []) (As := [.int x1, .int x6, .int x3]) (C := RX7) (k := 3) C0 (c_X7_valuesWith l E g a x1 x6 x3 e4) bw485 bw490 bw493 bw491 bw492 hd_X7_valuesWith ⟨Nat.le_of_ble_eq_true rfl, Nat.le_of_ble_eq_true rfl⟩ hP (wX_D hD) hS (va_recv hK hP (ci := 7) rfl (gx_38 E g a)) rfl hl.1 rfl (Nat.le_of_ble_eq_true rfl) dX7_leaveStanding_40 ⟨Nat.zero_le _, Nat.zero_le _⟩) hS (fun H locs hP hS => ?_)
          refine lv_istore (lv' := [(7, .int u3), (0, .ref (E.2.1 38)), (1, .int x1), (2, .int x2), (3, .int x3), (4, .int x4), (5, .int x5), (6, .int x6)]) hx hb dX7_leaveStanding_43 hl (by decide) rfl (fun ls hl => ?_)
          refine lv_aload_n hx hb dX7_leaveStanding_45 rfl (lv_at hl 1 rfl) ?_
          refine lv_iload_n hx hb dX7_leaveStanding_46 rfl (lv_at hl 2 rfl) ?_
          refine lv_iload hx hb dX7_leaveStanding_47 (lv_at hl 7 rfl) ?_
          refine lv_iload hx hb dX7_leaveStanding_49 (lv_at hl 5 rfl) ?_
          obtain ⟨u5, e6, hf⟩ := bd_some hf
          refine xci (xRunV (rest := []) (As := [.int x1, .int x6, .int x4]) (C := RX7) (k := 3) C0 (c_X7_valuesWith l E g a x1 x6 x4 e6) bw485 bw490 bw493 bw491 bw492 hd_X7_valuesWith ⟨Nat.le_of_ble_eq_true rfl, Nat.le_of_ble_eq_true rfl⟩ hP (wX_D hD) hS (va_recv hK hP (ci := 7) rfl (gx_38 E g a)) rfl hl.1 rfl (Nat.le_of_ble_eq_true rfl) dX7_leaveStanding_51 ⟨Nat.zero_le _, Nat.zero_le _⟩) hS (fun H locs hP hS => ?_)
          refine lv_istore (lv' := [(8, .int u5), (7, .int u3), (0, .ref (E.2.1 38)), (1, .int x1), (2, .int x2), (3, .int x3), (4, .int x4), (5, .int x5), (6, .int x6)]) hx hb dX7_leaveStanding_54 hl (by decide) rfl (fun ls hl => ?_)
          refine lv_iconst (v := 0) hx hb dX7_leaveStanding_56 (by decide) ?_
          refine lv_istore (lv' := [(9, .int 0), (8, .int u5), (7, .int u3), (0, .ref (E.2.1 38)), (1, .int x1), (2, .int x2), (3, .int x3), (4, .int x4), (5, .int x5), (6, .int x6)]) hx hb dX7_leaveStanding_57 hl (by decide) rfl (fun ls hl => ?_)
          exact B59 (f_X7_leaveStanding_6 g n) ih fu a x1 x2 x3 x4 x5 x6 u3 u5 0 _ _ _ hP hS (lv_sub hl [3, 4, 5, 6, 7, 8, 9, 2, 1, 0] rfl) hf
  refine lv_iconst (v := 0) hx hb dX7_leaveStanding_0 (by decide) ?_
  refine lv_istore (lv' := [(5, .int 0), (0, .ref (E.2.1 38)), (1, .int v1), (2, .int v2), (3, .int v3), (4, .int v4)]) hx hb dX7_leaveStanding_1 hl (by decide) rfl (fun ls hl => ?_)
  refine lv_iconst (v := 0) hx hb dX7_leaveStanding_3 (by decide) ?_
  refine lv_istore (lv' := [(6, .int 0), (5, .int 0), (0, .ref (E.2.1 38)), (1, .int v1), (2, .int v2), (3, .int v3), (4, .int v4)]) hx hb dX7_leaveStanding_4 hl (by decide) rfl (fun ls hl => ?_)
  exact B6 fu a v1 v2 v3 v4 0 0 _ _ _ hP hS (lv_sub hl [2, 3, 4, 5, 6, 1, 0] rfl) hf
def f_X7_leaveAtFirst_73 (g : xG) (K37 : xA → Int32 → Option (xA)) (K59 : xA → Int32 → Int32 → Int32 → Option (xA)) : Nat → xA → Int32 → Int32 → Int32 → Int32 → Option (xA)
  | 0, _, _, _, _, _ => none
  | n + 1, a, x1, x2, x3, x4 => (if x3 ≤ x4 then K59 a x1 x2 (x3 + 1) else Option.bind (f_X7_leaveStanding g a x1 x2 x3 x4) (fun u8 => Option.bind (f_X7_leaveStanding g u8 x1 x2 x4 x3) (fun u10 => f_X7_leaveAtFirst_73 g K37 K59 n u10 x1 x2 x3 (x4 + 1))))
theorem e_X7_leaveAtFirst_73 (g : xG) (K37 : xA → Int32 → Option (xA)) (K59 : xA → Int32 → Int32 → Int32 → Option (xA)) (n : Nat) (a : xA) (x1 : Int32) (x2 : Int32) (x3 : Int32) (x4 : Int32) : f_X7_leaveAtFirst_73 g K37 K59 (n + 1) a x1 x2 x3 x4 = (if x3 ≤ x4 then K59 a x1 x2 (x3 + 1) else Option.bind (f_X7_leaveStanding g a x1 x2 x3 x4) (fun u8 => Option.bind (f_X7_leaveStanding g u8 x1 x2 x4 x3) (fun u10 => f_X7_leaveAtFirst_73 g K37 K59 n u10 x1 x2 x3 (x4 + 1)))) := rfl
def f_X7_leaveAtFirst_59 (g : xG) (K37 : xA → Int32 → Option (xA)) : Nat → xA → Int32 → Int32 → Int32 → Option (xA)
  | 0, _, _, _, _ => none
  | n + 1, a, x1, x2, x3 => (if (t_X2_variableCount 1 g a) ≤ x3 then K37 a (x1 + 1) else f_X7_leaveAtFirst_73 g K37 (f_X7_leaveAtFirst_59 g K37 n) fu a x1 x2 x3 0)
theorem e_X7_leaveAtFirst_59 (g : xG) (K37 : xA → Int32 → Option (xA)) (n : Nat) (a : xA) (x1 : Int32) (x2 : Int32) (x3 : Int32) : f_X7_leaveAtFirst_59 g K37 (n + 1) a x1 x2 x3 = (if (t_X2_variableCount 1 g a) ≤ x3 then K37 a (x1 + 1) else f_X7_leaveAtFirst_73 g K37 (f_X7_leaveAtFirst_59 g K37 n) fu a x1 x2 x3 0) := rfl
def f_X7_leaveAtFirst_37 (g : xG) : Nat → xA → Int32 → Option (xA)
  | 0, _, _ => none
  | n + 1, a, x1 => (if (g 13) ≤ x1 then some a else Option.bind (f_X2_standing 1 g a x1) (fun u4 => f_X7_leaveAtFirst_59 g (f_X7_leaveAtFirst_37 g n) fu a x1 u4 0))
theorem e_X7_leaveAtFirst_37 (g : xG) (n : Nat) (a : xA) (x1 : Int32) : f_X7_leaveAtFirst_37 g (n + 1) a x1 = (if (g 13) ≤ x1 then some a else Option.bind (f_X2_standing 1 g a x1) (fun u4 => f_X7_leaveAtFirst_59 g (f_X7_leaveAtFirst_37 g n) fu a x1 u4 0)) := rfl
def f_X7_leaveAtFirst_2 (g : xG) : Nat → xA → Int32 → Option (xA)
  | 0, _, _ => none
  | n + 1, a, x1 => (if 36 ≤ x1 then f_X7_leaveAtFirst_37 g fu a 0 else ck (inB x1 36) (f_X7_leaveAtFirst_2 g n (upA a 39 (upd (a 39) (x1 : Int32).toNatClampNeg (((1 : Int32) <<< ((t_X4_power g a 2) &&& 31)) - 1))) (x1 + 1)))
theorem e_X7_leaveAtFirst_2 (g : xG) (n : Nat) (a : xA) (x1 : Int32) : f_X7_leaveAtFirst_2 g (n + 1) a x1 = (if 36 ≤ x1 then f_X7_leaveAtFirst_37 g fu a 0 else ck (inB x1 36) (f_X7_leaveAtFirst_2 g n (upA a 39 (upd (a 39) (x1 : Int32).toNatClampNeg (((1 : Int32) <<< ((t_X4_power g a 2) &&& 31)) - 1))) (x1 + 1))) := rfl
def f_X7_leaveAtFirst (g : xG) (a : xA) : Option (xA) := f_X7_leaveAtFirst_2 g fu a 0
set_option maxRecDepth 100000 in
set_option maxHeartbeats 40000000 in
theorem c_X7_leaveAtFirst (l : Launch) (E : xE) (g : xG) (a : xA) {res : xA} (hf : f_X7_leaveAtFirst g a = some res) : xM l E yX7_leaveAtFirst cX7_leaveAtFirst 5 none 4 96 [.ref (E.2.1 38)] (wX E g a) (xQv E (wX E g res)) := by
  unfold f_X7_leaveAtFirst at hf
  refine xM_of (by decide) (Nat.le_of_ble_eq_true rfl) ?_
  intro p e s m below meth c A hx hb hr hml hts hown hlocks hA hD hP hK hN hS ls hl
  have hw : ∀ w ∈ BW, w.before _ s = true := fun w h => hts w (List.mem_cons_of_mem _ h)
  have C0 : xCtx E p m c cX7_leaveAtFirst 5 s _ RX7 A yX7_leaveAtFirst cX7_leaveAtFirst 5 none := ⟨hx, hb, hml, hown, hts, hA, hK, hN⟩
  have hl : lv_has ls 5 [(0, .ref (E.2.1 38))] := hl
  have B73 : ∀ (K37 : xA → Int32 → Option (xA)) (hK37 : ∀ (a : xA) (x1 : Int32) (H : Heap) (locs : List Loc) (ls : Array Slot), va_P E.1 vwCl (wX E g a) H → va_S A s.heap H locs → lv_has ls 5 [(0, .ref (E.2.1 38)), (1, .int x1)] → K37 a x1 = some res → W p l e ({ frames := 4, cells := 0, slots := 0, locals := 96 }) s m ([.ref (E.2.1 38)] : List Value).toArray below meth c H locs 0 0 (MQ below ((xQv E (wX E g res)) A) ([.ref (E.2.1 38)] : List Value).toArray s 0 0 A) (F0 m 37 ls [])) (K59 : xA → Int32 → Int32 → Int32 → Option (xA)) (hK59 : ∀ (a : xA) (x1 : Int32) (x2 : Int32) (x3 : Int32) (H : Heap) (locs : List Loc) (ls : Array Slot), va_P E.1 vwCl (wX E g a) H → va_S A s.heap H locs → lv_has ls 5 [(0, .ref (E.2.1 38)), (1, .int x1), (2, .int x2), (3, .int x3)] → K59 a x1 x2 x3 = some res → W p l e ({ frames := 4, cells := 0, slots := 0, locals := 96 }) s m ([.ref (E.2.1 38)] : List Value).toArray below meth c H locs 0 0 (MQ below ((xQv E (wX E g res)) A) ([.ref (E.2.1 38)] : List Value).toArray s 0 0 A) (F0 m 59 ls [])) (n : Nat) (a : xA) (x1 : Int32) (x2 : Int32) (x3 : Int32) (x4 : Int32) (H : Heap) (locs : List Loc) (ls : Array Slot), va_P E.1 vwCl (wX E g a) H → va_S A s.heap H locs → lv_has ls 5 [(0, .ref (E.2.1 38)), (1, .int x1), (2, .int x2), (3, .int x3), (4, .int x4)] → f_X7_leaveAtFirst_73 g K37 K59 n a x1 x2 x3 x4 = some res → W p l e ({ frames := 4, cells := 0, slots := 0, locals := 96 }) s m ([.ref (E.2.1 38)] : List Value).toArray below meth c H locs 0 0 (MQ below ((xQv E (wX E g res)) A) ([.ref (E.2.1 38)] : List Value).toArray s 0 0 A) (F0 m 73 ls []) := by
    intro K37 hK37 K59 hK59 n
    induction n with
    | zero => intro a x1 x2 x3 x4 H locs ls hP hS hl hf; exact absurd (show (none : Option (xA)) = some res from hf) (by intro h; cases h)
    | succ n ih =>
      intro a x1 x2 x3 x4 H locs ls hP hS hl hf
      replace hf := (e_X7_leaveAtFirst_73 g K37 K59 n a x1 x2 x3 x4).symm.trans hf
      refine lv_iload hx hb dX7_leaveAtFirst_73 (lv_at hl 4 rfl) ?_
      refine lv_iload_n hx hb dX7_leaveAtFirst_75 rfl (lv_at hl 3 rfl) ?_
      refine lv_icmp_ge (tgt := 103) hx hb dX7_leaveAtFirst_76 (by decide) (fun c7 => ?_) (fun c7 => ?_)
      · replace hf := (if_pos c7).symm.trans hf
        refine lv_iinc (v := (x3 + 1)) (lv' := [(3, .int (x3 + 1)), (0, .ref (E.2.1 38)), (1, .int x1), (2, .int x2), (4, .int x4)]) hx hb dX7_leaveAtFirst_103 hl (k := 3) rfl rfl (by decide) rfl (fun ls hl => ?_)
        refine lv_goto (tgt := 59) hx hb dX7_leaveAtFirst_106 (by decide) ?_
        exact hK59 a x1 x2 (x3 + 1) _ _ _ hP hS (lv_sub hl [1, 2, 3, 0] rfl) hf
      · replace hf := (if_neg c7).symm.trans hf
        refine lv_aload_n hx hb dX7_leaveAtFirst_79 rfl (lv_at hl 0 rfl) ?_
        refine lv_iload_n hx hb dX7_leaveAtFirst_80 rfl (lv_at hl 1 rfl) ?_
        refine lv_iload_n hx hb dX7_leaveAtFirst_81 rfl (lv_at hl 2 rfl) ?_
        refine lv_iload_n hx hb dX7_leaveAtFirst_82 rfl (lv_at hl 3 rfl) ?_
        refine lv_iload hx hb dX7_leaveAtFirst_83 (lv_at hl 4 rfl) ?_
        obtain ⟨u8, e9, hf⟩ := bd_some hf
        refine xcv (xRunV (rest := []) (As := [.int x1, .int x2, .int x3, .int x4]) (C := RX7) (k := 4) C0 (c_X7_leaveStanding l E g a x1 x2 x3 x4 e9) bw500 bw506 bw493 bw507 bw508 hd_X7_leaveStanding ⟨Nat.le_of_ble_eq_true rfl, Nat.le_of_ble_eq_true rfl⟩ hP (wX_D hD) hS (va_recv hK hP (ci := 7) rfl (gx_38 E g a)) rfl hl.1 rfl (Nat.le_of_ble_eq_true rfl) dX7_leaveAtFirst_85 ⟨Nat.zero_le _, Nat.zero_le _⟩) hS (fun H locs hP hS => ?_)
        refine lv_aload_n hx hb dX7_leaveAtFirst_88 rfl (lv_at hl 0 rfl) ?_
        refine lv_iload_n hx hb dX7_leaveAtFirst_89 rfl (lv_at hl 1 rfl) ?_
        refine lv_iload_n hx hb dX7_leaveAtFirst_90 rfl (lv_at hl 2 rfl) ?_
        refine lv_iload hx hb dX7_leaveAtFirst_91 (lv_at hl 4 rfl) ?_
        refine lv_iload_n hx hb dX7_leaveAtFirst_93 rfl (lv_at hl 3 rfl) ?_
        obtain ⟨u10, e11, hf⟩ := bd_some hf
        refine xcv (xRunV (rest := []) (As := [.int x1, .int x2, .int x4, .int x3]) (C := RX7) (k := 4) C0 (c_X7_leaveStanding l E g u8 x1 x2 x4 x3 e11) bw500 bw506 bw493 bw507 bw508 hd_X7_leaveStanding ⟨Nat.le_of_ble_eq_true rfl, Nat.le_of_ble_eq_true rfl⟩ hP (wX_D hD) hS (va_recv hK hP (ci := 7) rfl (gx_38 E g u8)) rfl hl.1 rfl (Nat.le_of_ble_eq_true rfl) dX7_leaveAtFirst_94 ⟨Nat.zero_le _, Nat.zero_le _⟩) hS (fun H locs hP hS => ?_)
        refine lv_iinc (v := (x4 + 1)) (lv' := [(4, .int (x4 + 1)), (0, .ref (E.2.1 38)), (1, .int x1), (2, .int x2), (3, .int x3)]) hx hb dX7_leaveAtFirst_97 hl (k := 4) rfl rfl (by decide) rfl (fun ls hl => ?_)
        refine lv_goto (tgt := 73) hx hb dX7_leaveAtFirst_100 (by decide) ?_
        exact ih u10 x1 x2 x3 (x4 + 1) _ _ _ hP hS (lv_sub hl [1, 2, 3, 4, 0] rfl) hf
  have B59 : ∀ (K37 : xA → Int32 → Option (xA)) (hK37 : ∀ (a : xA) (x1 : Int32) (H : Heap) (locs : List Loc) (ls : Array Slot), va_P E.1 vwCl (wX E g a) H → va_S A s.heap H locs → lv_has ls 5 [(0, .ref (E.2.1 38)), (1, .int x1)] → K37 a x1 = some res → W p l e ({ frames := 4, cells := 0, slots := 0, locals := 96 }) s m ([.ref (E.2.1 38)] : List Value).toArray below meth c H locs 0 0 (MQ below ((xQv E (wX E g res)) A) ([.ref (E.2.1 38)] : List Value).toArray s 0 0 A) (F0 m 37 ls [])) (n : Nat) (a : xA) (x1 : Int32) (x2 : Int32) (x3 : Int32) (H : Heap) (locs : List Loc) (ls : Array Slot), va_P E.1 vwCl (wX E g a) H → va_S A s.heap H locs → lv_has ls 5 [(0, .ref (E.2.1 38)), (1, .int x1), (2, .int x2), (3, .int x3)] → f_X7_leaveAtFirst_59 g K37 n a x1 x2 x3 = some res → W p l e ({ frames := 4, cells := 0, slots := 0, locals := 96 }) s m ([.ref (E.2.1 38)] : List Value).toArray below meth c H locs 0 0 (MQ below ((xQv E (wX E g res)) A) ([.ref (E.2.1 38)] : List Value).toArray s 0 0 A) (F0 m 59 ls []) := by
    intro K37 hK37 n
    induction n with
    | zero => intro a x1 x2 x3 H locs ls hP hS hl hf; exact absurd (show (none : Option (xA)) = some res from hf) (by intro h; cases h)
    | succ n ih =>
      intro a x1 x2 x3 H locs ls hP hS hl hf
      replace hf := (e_X7_leaveAtFirst_59 g K37 n a x1 x2 x3).symm.trans hf
      refine lv_iload_n hx hb dX7_leaveAtFirst_59 rfl (lv_at hl 3 rfl) ?_
      refine lv_aload_n hx hb dX7_leaveAtFirst_60 rfl (lv_at hl 0 rfl) ?_
      refine va_get (C := RX7) (T := TX7) (N := 3) hx hb hw bfX70 hown hK hP 38 (gx_38 E g a) rfl 1 (by decide) (hw _ bw480) (fun _ h9 => h9) rfl dX7_leaveAtFirst_61 ?_
      refine xci (xRunV (rest := [.int x3]) (As := []) (C := RX2) (k := 0) C0 (c_X2_variableCount l E 1 (by decide) g a) bw209 bw503 bw86 bw504 bw505 hd_X2_variableCount ⟨Nat.le_of_ble_eq_true rfl, Nat.le_of_ble_eq_true rfl⟩ hP (wX_D hD) hS (va_recv hK hP (ci := 2) rfl (gx_31 E g a)) rfl hl.1 rfl (Nat.le_of_ble_eq_true rfl) dX7_leaveAtFirst_64 ⟨Nat.zero_le _, Nat.zero_le _⟩) hS (fun H locs hP hS => ?_)
      refine lv_icmp_ge (tgt := 109) hx hb dX7_leaveAtFirst_67 (by decide) (fun c6 => ?_) (fun c6 => ?_)
      · replace hf := (if_pos c6).symm.trans hf
        refine lv_iinc (v := (x1 + 1)) (lv' := [(1, .int (x1 + 1)), (0, .ref (E.2.1 38)), (2, .int x2), (3, .int x3)]) hx hb dX7_leaveAtFirst_109 hl (k := 1) rfl rfl (by decide) rfl (fun ls hl => ?_)
        refine lv_goto (tgt := 37) hx hb dX7_leaveAtFirst_112 (by decide) ?_
        exact hK37 a (x1 + 1) _ _ _ hP hS (lv_sub hl [1, 0] rfl) hf
      · replace hf := (if_neg c6).symm.trans hf
        refine lv_iconst (v := 0) hx hb dX7_leaveAtFirst_70 (by decide) ?_
        refine lv_istore (lv' := [(4, .int 0), (0, .ref (E.2.1 38)), (1, .int x1), (2, .int x2), (3, .int x3)]) hx hb dX7_leaveAtFirst_71 hl (by decide) rfl (fun ls hl => ?_)
        exact B73 K37 hK37 (f_X7_leaveAtFirst_59 g K37 n) ih fu a x1 x2 x3 0 _ _ _ hP hS (lv_sub hl [1, 2, 3, 4, 0] rfl) hf
  have B37 : ∀ (n : Nat) (a : xA) (x1 : Int32) (H : Heap) (locs : List Loc) (ls : Array Slot), va_P E.1 vwCl (wX E g a) H → va_S A s.heap H locs → lv_has ls 5 [(0, .ref (E.2.1 38)), (1, .int x1)] → f_X7_leaveAtFirst_37 g n a x1 = some res → W p l e ({ frames := 4, cells := 0, slots := 0, locals := 96 }) s m ([.ref (E.2.1 38)] : List Value).toArray below meth c H locs 0 0 (MQ below ((xQv E (wX E g res)) A) ([.ref (E.2.1 38)] : List Value).toArray s 0 0 A) (F0 m 37 ls []) := by
    intro n
    induction n with
    | zero => intro a x1 H locs ls hP hS hl hf; exact absurd (show (none : Option (xA)) = some res from hf) (by intro h; cases h)
    | succ n ih =>
      intro a x1 H locs ls hP hS hl hf
      replace hf := (e_X7_leaveAtFirst_37 g n a x1).symm.trans hf
      refine lv_iload_n hx hb dX7_leaveAtFirst_37 rfl (lv_at hl 1 rfl) ?_
      refine lv_aload_n hx hb dX7_leaveAtFirst_38 rfl (lv_at hl 0 rfl) ?_
      refine va_get (C := RX7) (T := TX7) (N := 3) hx hb hw bfX70 hown hK hP 38 (gx_38 E g a) rfl 1 (by decide) (hw _ bw480) (fun _ h9 => h9) rfl dX7_leaveAtFirst_39 ?_
      refine va_get (C := RX2) (T := TX2) (N := 10) hx hb hw bfX20 hown hK hP 31 (gx_31 E g a) rfl 0 (by decide) (hw _ bw501) (fun _ h9 => h9) rfl dX7_leaveAtFirst_42 ?_
      refine lv_icmp_ge (tgt := 115) hx hb dX7_leaveAtFirst_45 (by decide) (fun c3 => ?_) (fun c3 => ?_)
      · replace hf := (if_pos c3).symm.trans hf
        exact xv_retS (fw := (fun r => wX E g r)) hx hb hr hlocks (Option.some.inj hf) hP hS dX7_leaveAtFirst_115
      · replace hf := (if_neg c3).symm.trans hf
        refine lv_aload_n hx hb dX7_leaveAtFirst_48 rfl (lv_at hl 0 rfl) ?_
        refine va_get (C := RX7) (T := TX7) (N := 3) hx hb hw bfX70 hown hK hP 38 (gx_38 E g a) rfl 1 (by decide) (hw _ bw480) (fun _ h9 => h9) rfl dX7_leaveAtFirst_49 ?_
        refine lv_iload_n hx hb dX7_leaveAtFirst_52 rfl (lv_at hl 1 rfl) ?_
        obtain ⟨u4, e5, hf⟩ := bd_some hf
        refine xci (xRunV (rest := []) (As := [.int x1]) (C := RX2) (k := 1) C0 (c_X2_standing l E 1 (by decide) g a x1 e5) bw229 bw502 bw86 bw232 bw233 hd_X2_standing ⟨Nat.le_of_ble_eq_true rfl, Nat.le_of_ble_eq_true rfl⟩ hP (wX_D hD) hS (va_recv hK hP (ci := 2) rfl (gx_31 E g a)) rfl hl.1 rfl (Nat.le_of_ble_eq_true rfl) dX7_leaveAtFirst_53 ⟨Nat.zero_le _, Nat.zero_le _⟩) hS (fun H locs hP hS => ?_)
        refine lv_istore_n (lv' := [(2, .int u4), (0, .ref (E.2.1 38)), (1, .int x1)]) hx hb dX7_leaveAtFirst_56 rfl hl (by decide) rfl (fun ls hl => ?_)
        refine lv_iconst (v := 0) hx hb dX7_leaveAtFirst_57 (by decide) ?_
        refine lv_istore_n (lv' := [(3, .int 0), (2, .int u4), (0, .ref (E.2.1 38)), (1, .int x1)]) hx hb dX7_leaveAtFirst_58 rfl hl (by decide) rfl (fun ls hl => ?_)
        exact B59 (f_X7_leaveAtFirst_37 g n) ih fu a x1 u4 0 _ _ _ hP hS (lv_sub hl [2, 3, 1, 0] rfl) hf
  have B2 : ∀ (n : Nat) (a : xA) (x1 : Int32) (H : Heap) (locs : List Loc) (ls : Array Slot), va_P E.1 vwCl (wX E g a) H → va_S A s.heap H locs → lv_has ls 5 [(0, .ref (E.2.1 38)), (1, .int x1)] → f_X7_leaveAtFirst_2 g n a x1 = some res → W p l e ({ frames := 4, cells := 0, slots := 0, locals := 96 }) s m ([.ref (E.2.1 38)] : List Value).toArray below meth c H locs 0 0 (MQ below ((xQv E (wX E g res)) A) ([.ref (E.2.1 38)] : List Value).toArray s 0 0 A) (F0 m 2 ls []) := by
    intro n
    induction n with
    | zero => intro a x1 H locs ls hP hS hl hf; exact absurd (show (none : Option (xA)) = some res from hf) (by intro h; cases h)
    | succ n ih =>
      intro a x1 H locs ls hP hS hl hf
      replace hf := (e_X7_leaveAtFirst_2 g n a x1).symm.trans hf
      refine lv_iload_n hx hb dX7_leaveAtFirst_2 rfl (lv_at hl 1 rfl) ?_
      refine lv_aload_n hx hb dX7_leaveAtFirst_3 rfl (lv_at hl 0 rfl) ?_
      refine va_get (C := RX7) (T := TX7) (N := 3) hx hb hw bfX70 hown hK hP 38 (gx_38 E g a) rfl 2 (by decide) (hw _ bw478) (fun _ h9 => h9) rfl dX7_leaveAtFirst_4 ?_
      refine va_alen (v := 36) hx hb hK hP 39 0 (gx_39 E g a) rfl rfl dX7_leaveAtFirst_7 ?_
      refine lv_icmp_ge (tgt := 35) hx hb dX7_leaveAtFirst_8 (by decide) (fun c1 => ?_) (fun c1 => ?_)
      · replace hf := (if_pos c1).symm.trans hf
        refine lv_iconst (v := 0) hx hb dX7_leaveAtFirst_35 (by decide) ?_
        refine lv_istore_n (lv' := [(1, .int 0), (0, .ref (E.2.1 38))]) hx hb dX7_leaveAtFirst_36 rfl hl (by decide) rfl (fun ls hl => ?_)
        exact B37 fu a 0 _ _ _ hP hS (lv_sub hl [1, 0] rfl) hf
      · replace hf := (if_neg c1).symm.trans hf
        refine lv_aload_n hx hb dX7_leaveAtFirst_11 rfl (lv_at hl 0 rfl) ?_
        refine va_get (C := RX7) (T := TX7) (N := 3) hx hb hw bfX70 hown hK hP 38 (gx_38 E g a) rfl 2 (by decide) (hw _ bw478) (fun _ h9 => h9) rfl dX7_leaveAtFirst_12 ?_
        refine lv_iload_n hx hb dX7_leaveAtFirst_15 rfl (lv_at hl 1 rfl) ?_
        refine lv_iconst (v := 1) hx hb dX7_leaveAtFirst_16 (by decide) ?_
        refine lv_aload_n hx hb dX7_leaveAtFirst_17 rfl (lv_at hl 0 rfl) ?_
        refine va_get (C := RX7) (T := TX7) (N := 3) hx hb hw bfX70 hown hK hP 38 (gx_38 E g a) rfl 0 (by decide) (hw _ bw479) (fun _ h9 => h9) rfl dX7_leaveAtFirst_18 ?_
        refine lv_iconst (v := 2) hx hb dX7_leaveAtFirst_21 (by decide) ?_
        refine xci (xRunV (rest := [.int 1, .int x1, .ref (E.2.1 39)]) (As := [.int 2]) (C := RX4) (k := 1) C0 (c_X4_power l E g a 2) bw55 bw489 bw22 bw58 bw59 hd_X4_power ⟨Nat.le_of_ble_eq_true rfl, Nat.le_of_ble_eq_true rfl⟩ hP (wX_D hD) hS (va_recv hK hP (ci := 4) rfl (gx_1 E g a)) rfl hl.1 rfl (Nat.le_of_ble_eq_true rfl) dX7_leaveAtFirst_22 ⟨Nat.zero_le _, Nat.zero_le _⟩) hS (fun H locs hP hS => ?_)
        refine lv_ishl hx hb dX7_leaveAtFirst_25 ?_
        refine lv_iconst (v := 1) hx hb dX7_leaveAtFirst_26 (by decide) ?_
        refine lv_isub hx hb dX7_leaveAtFirst_27 ?_
        obtain ⟨k2, hf⟩ := ck_some hf
        refine va_iast hx hb hK hP (wX_D hD) hS 39 0 (gx_39 E g a) rfl (inB_in k2) dX7_leaveAtFirst_28 (fun H locs hP _ hS => ?_)
        have hP := xP_eq (sx_a39 E g a (upd (a 39) (x1 : Int32).toNatClampNeg (((1 : Int32) <<< ((t_X4_power g a 2) &&& 31)) - 1))) hP
        refine lv_iinc (v := (x1 + 1)) (lv' := [(1, .int (x1 + 1)), (0, .ref (E.2.1 38))]) hx hb dX7_leaveAtFirst_29 hl (k := 1) rfl rfl (by decide) rfl (fun ls hl => ?_)
        refine lv_goto (tgt := 2) hx hb dX7_leaveAtFirst_32 (by decide) ?_
        exact ih (upA a 39 (upd (a 39) (x1 : Int32).toNatClampNeg (((1 : Int32) <<< ((t_X4_power g a 2) &&& 31)) - 1))) (x1 + 1) _ _ _ hP hS (lv_sub hl [1, 0] rfl) hf
  refine lv_iconst (v := 0) hx hb dX7_leaveAtFirst_0 (by decide) ?_
  refine lv_istore_n (lv' := [(1, .int 0), (0, .ref (E.2.1 38))]) hx hb dX7_leaveAtFirst_1 rfl hl (by decide) rfl (fun ls hl => ?_)
  exact B2 fu a 0 _ _ _ hP hS (lv_sub hl [1, 0] rfl) hf
def f_X7_joined_42 (g : xG) (a : xA) (K5 : Int32 → Int32 → Int32 → Int32 → Option (Int32)) : Nat → Int32 → Int32 → Int32 → Int32 → Int32 → Int32 → Option (Int32)
  | 0, _, _, _, _, _, _ => none
  | n + 1, x1, x2, x3, x4, x5, x6 => (if (g 0) ≤ x6 then K5 x1 x2 x3 (x4 + 1) else (if (isInF (x5 + ((g 0) * x6)) x2) = 0 then f_X7_joined_42 g a K5 n x1 x2 (x3 ||| 0) x4 x5 (x6 + 1) else f_X7_joined_42 g a K5 n x1 x2 (x3 ||| ((1 : Int32) <<< (((t_X4_digit g a x4 0) + ((g 0) * x6)) &&& 31))) x4 x5 (x6 + 1)))
theorem e_X7_joined_42 (g : xG) (a : xA) (K5 : Int32 → Int32 → Int32 → Int32 → Option (Int32)) (n : Nat) (x1 : Int32) (x2 : Int32) (x3 : Int32) (x4 : Int32) (x5 : Int32) (x6 : Int32) : f_X7_joined_42 g a K5 (n + 1) x1 x2 x3 x4 x5 x6 = (if (g 0) ≤ x6 then K5 x1 x2 x3 (x4 + 1) else (if (isInF (x5 + ((g 0) * x6)) x2) = 0 then f_X7_joined_42 g a K5 n x1 x2 (x3 ||| 0) x4 x5 (x6 + 1) else f_X7_joined_42 g a K5 n x1 x2 (x3 ||| ((1 : Int32) <<< (((t_X4_digit g a x4 0) + ((g 0) * x6)) &&& 31))) x4 x5 (x6 + 1))) := rfl
def f_X7_joined_5 (g : xG) (a : xA) : Nat → Int32 → Int32 → Int32 → Int32 → Option (Int32)
  | 0, _, _, _, _ => none
  | n + 1, x1, x2, x3, x4 => (if (t_X4_power g a 2) ≤ x4 then some x3 else (if (isInF x4 x1) = 0 then f_X7_joined_5 g a n x1 x2 x3 (x4 + 1) else f_X7_joined_42 g a (f_X7_joined_5 g a n) fu x1 x2 x3 x4 (t_X4_digit g a x4 1) 0))
theorem e_X7_joined_5 (g : xG) (a : xA) (n : Nat) (x1 : Int32) (x2 : Int32) (x3 : Int32) (x4 : Int32) : f_X7_joined_5 g a (n + 1) x1 x2 x3 x4 = (if (t_X4_power g a 2) ≤ x4 then some x3 else (if (isInF x4 x1) = 0 then f_X7_joined_5 g a n x1 x2 x3 (x4 + 1) else f_X7_joined_42 g a (f_X7_joined_5 g a n) fu x1 x2 x3 x4 (t_X4_digit g a x4 1) 0)) := rfl
def f_X7_joined (g : xG) (a : xA) (v1 : Int32) (v2 : Int32) : Option (Int32) := f_X7_joined_5 g a fu v1 v2 0 0
set_option maxRecDepth 100000 in
set_option maxHeartbeats 40000000 in
theorem c_X7_joined (l : Launch) (E : xE) (g : xG) (a : xA) (v1 : Int32) (v2 : Int32) {res : Int32} (hf : f_X7_joined g a v1 v2 = some res) : xM l E yX7_joined cX7_joined 8 (some .int) 2 43 [.ref (E.2.1 38), .int v1, .int v2] (wX E g a) (xQi E res (wX E g a)) := by
  unfold f_X7_joined at hf
  refine xM_of (by decide) (Nat.le_of_ble_eq_true rfl) ?_
  intro p e s m below meth c A hx hb hr hml hts hown hlocks hA hD hP hK hN hS ls hl
  have hw : ∀ w ∈ BW, w.before _ s = true := fun w h => hts w (List.mem_cons_of_mem _ h)
  have C0 : xCtx E p m c cX7_joined 8 s _ RX7 A yX7_joined cX7_joined 8 (some .int) := ⟨hx, hb, hml, hown, hts, hA, hK, hN⟩
  have hl : lv_has ls 8 [(0, .ref (E.2.1 38)), (1, .int v1), (2, .int v2)] := hl
  have B42 : ∀ (K5 : Int32 → Int32 → Int32 → Int32 → Option (Int32)) (hK5 : ∀ (x1 : Int32) (x2 : Int32) (x3 : Int32) (x4 : Int32) (H : Heap) (locs : List Loc) (ls : Array Slot), va_P E.1 vwCl (wX E g a) H → va_S A s.heap H locs → lv_has ls 8 [(0, .ref (E.2.1 38)), (1, .int x1), (2, .int x2), (3, .int x3), (4, .int x4)] → K5 x1 x2 x3 x4 = some res → W p l e ({ frames := 2, cells := 0, slots := 0, locals := 43 }) s m ([.ref (E.2.1 38), .int v1, .int v2] : List Value).toArray below meth c H locs 0 0 (MQ below ((xQi E res (wX E g a)) A) ([.ref (E.2.1 38), .int v1, .int v2] : List Value).toArray s 0 0 A) (F0 m 5 ls [])) (n : Nat) (x1 : Int32) (x2 : Int32) (x3 : Int32) (x4 : Int32) (x5 : Int32) (x6 : Int32) (H : Heap) (locs : List Loc) (ls : Array Slot), va_P E.1 vwCl (wX E g a) H → va_S A s.heap H locs → lv_has ls 8 [(0, .ref (E.2.1 38)), (1, .int x1), (2, .int x2), (3, .int x3), (4, .int x4), (5, .int x5), (6, .int x6)] → f_X7_joined_42 g a K5 n x1 x2 x3 x4 x5 x6 = some res → W p l e ({ frames := 2, cells := 0, slots := 0, locals := 43 }) s m ([.ref (E.2.1 38), .int v1, .int v2] : List Value).toArray below meth c H locs 0 0 (MQ below ((xQi E res (wX E g a)) A) ([.ref (E.2.1 38), .int v1, .int v2] : List Value).toArray s 0 0 A) (F0 m 42 ls []) := by
    intro K5 hK5 n
    induction n with
    | zero => intro x1 x2 x3 x4 x5 x6 H locs ls hP hS hl hf; exact absurd (show (none : Option (Int32)) = some res from hf) (by intro h; cases h)
    | succ n ih =>
      intro x1 x2 x3 x4 x5 x6 H locs ls hP hS hl hf
      replace hf := (e_X7_joined_42 g a K5 n x1 x2 x3 x4 x5 x6).symm.trans hf
      refine lv_iload hx hb dX7_joined_42 (lv_at hl 6 rfl) ?_
      refine lv_aload_n hx hb dX7_joined_44 rfl (lv_at hl 0 rfl) ?_
      refine va_get (C := RX7) (T := TX7) (N := 3) hx hb hw bfX70 hown hK hP 38 (gx_38 E g a) rfl 0 (by decide) (hw _ bw479) (fun _ h9 => h9) rfl dX7_joined_45 ?_
      refine va_get (C := RX4) (T := TX4) (N := 3) hx hb hw bfX40 hown hK hP 1 (gx_1 E g a) rfl 0 (by decide) (hw _ bw488) (fun _ h9 => h9) rfl dX7_joined_48 ?_
      refine lv_icmp_ge (tgt := 114) hx hb dX7_joined_51 (by decide) (fun c3 => ?_) (fun c3 => ?_)
      · replace hf := (if_pos c3).symm.trans hf
        refine lv_iinc (v := (x4 + 1)) (lv' := [(4, .int (x4 + 1)), (0, .ref (E.2.1 38)), (1, .int x1), (2, .int x2), (3, .int x3), (5, .int x5), (6, .int x6)]) hx hb dX7_joined_114 hl (k := 4) rfl rfl (by decide) rfl (fun ls hl => ?_)
        refine lv_goto (tgt := 5) hx hb dX7_joined_117 (by decide) ?_
        exact hK5 x1 x2 x3 (x4 + 1) _ _ _ hP hS (lv_sub hl [1, 2, 3, 4, 0] rfl) hf
      · replace hf := (if_neg c3).symm.trans hf
        refine lv_iload hx hb dX7_joined_54 (lv_at hl 5 rfl) ?_
        refine lv_aload_n hx hb dX7_joined_56 rfl (lv_at hl 0 rfl) ?_
        refine va_get (C := RX7) (T := TX7) (N := 3) hx hb hw bfX70 hown hK hP 38 (gx_38 E g a) rfl 0 (by decide) (hw _ bw479) (fun _ h9 => h9) rfl dX7_joined_57 ?_
        refine va_get (C := RX4) (T := TX4) (N := 3) hx hb hw bfX40 hown hK hP 1 (gx_1 E g a) rfl 0 (by decide) (hw _ bw488) (fun _ h9 => h9) rfl dX7_joined_60 ?_
        refine lv_iload hx hb dX7_joined_63 (lv_at hl 6 rfl) ?_
        refine lv_imul hx hb dX7_joined_65 ?_
        refine lv_iadd hx hb dX7_joined_66 ?_
        refine lv_iload_n hx hb dX7_joined_67 rfl (lv_at hl 2 rfl) ?_
        refine xci (xRunN (rest := []) (As := [.int (x5 + ((g 0) * x6)), .int x2]) (k := 2) C0 (c_isIn l E (wX E g a) (x5 + ((g 0) * x6)) x2) bw8 nw19 bw13 bw18 hd_X11_isIn ⟨Nat.le_of_ble_eq_true rfl, Nat.le_of_ble_eq_true rfl⟩ hP (wX_D hD) hS rfl hl.1 rfl (Nat.le_of_ble_eq_true rfl) dX7_joined_68 ⟨Nat.zero_le _, Nat.zero_le _⟩) hS (fun H locs hP hS => ?_)
        refine lv_istore (lv' := [(7, .int (isInF (x5 + ((g 0) * x6)) x2)), (0, .ref (E.2.1 38)), (1, .int x1), (2, .int x2), (3, .int x3), (4, .int x4), (5, .int x5), (6, .int x6)]) hx hb dX7_joined_71 hl (by decide) rfl (fun ls hl => ?_)
        refine lv_iload_n hx hb dX7_joined_73 rfl (lv_at hl 4 rfl) ?_
        refine lv_iload hx hb dX7_joined_74 (lv_at hl 0 rfl) ?_
        refine lv_if_eq (tgt := 105) hx hb dX7_joined_76 (by decide) (fun c4 => ?_) (fun c4 => ?_)
        · replace hf := (if_pos c4).symm.trans hf
          refine lv_iconst (v := 0) hx hb dX7_joined_105 (by decide) ?_
          refine lv_ior hx hb dX7_joined_106 ?_
          refine lv_istore_n (lv' := [(3, .int (x3 ||| 0)), (7, .int (isInF (x5 + ((g 0) * x6)) x2)), (0, .ref (E.2.1 38)), (1, .int x1), (2, .int x2), (4, .int x4), (5, .int x5), (6, .int x6)]) hx hb dX7_joined_107 rfl hl (by decide) rfl (fun ls hl => ?_)
          refine lv_iinc (v := (x6 + 1)) (lv' := [(6, .int (x6 + 1)), (3, .int (x3 ||| 0)), (7, .int (isInF (x5 + ((g 0) * x6)) x2)), (0, .ref (E.2.1 38)), (1, .int x1), (2, .int x2), (4, .int x4), (5, .int x5)]) hx hb dX7_joined_108 hl (k := 7) rfl rfl (by decide) rfl (fun ls hl => ?_)
          refine lv_goto (tgt := 42) hx hb dX7_joined_111 (by decide) ?_
          exact ih x1 x2 (x3 ||| 0) x4 x5 (x6 + 1) _ _ _ hP hS (lv_sub hl [3, 4, 5, 1, 6, 7, 0] rfl) hf
        · replace hf := (if_neg c4).symm.trans hf
          refine lv_iconst (v := 1) hx hb dX7_joined_79 (by decide) ?_
          refine lv_aload_n hx hb dX7_joined_80 rfl (lv_at hl 1 rfl) ?_
          refine va_get (C := RX7) (T := TX7) (N := 3) hx hb hw bfX70 hown hK hP 38 (gx_38 E g a) rfl 0 (by decide) (hw _ bw479) (fun _ h9 => h9) rfl dX7_joined_81 ?_
          refine lv_iload hx hb dX7_joined_84 (lv_at hl 5 rfl) ?_
          refine lv_iconst (v := 0) hx hb dX7_joined_86 (by decide) ?_
          refine xci (xRunV (rest := [.int 1, .int x3]) (As := [.int x4, .int 0]) (C := RX4) (k := 2) C0 (c_X4_digit l E g a x4 0) bw174 bw483 bw22 bw199 bw200 hd_X4_digit ⟨Nat.le_of_ble_eq_true rfl, Nat.le_of_ble_eq_true rfl⟩ hP (wX_D hD) hS (va_recv hK hP (ci := 4) rfl (gx_1 E g a)) rfl hl.1 rfl (Nat.le_of_ble_eq_true rfl) dX7_joined_87 ⟨Nat.zero_le _, Nat.zero_le _⟩) hS (fun H locs hP hS => ?_)
          refine lv_aload_n hx hb dX7_joined_90 rfl (lv_at hl 1 rfl) ?_
          refine va_get (C := RX7) (T := TX7) (N := 3) hx hb hw bfX70 hown hK hP 38 (gx_38 E g a) rfl 0 (by decide) (hw _ bw479) (fun _ h9 => h9) rfl dX7_joined_91 ?_
          refine va_get (C := RX4) (T := TX4) (N := 3) hx hb hw bfX40 hown hK hP 1 (gx_1 E g a) rfl 0 (by decide) (hw _ bw488) (fun _ h9 => h9) rfl dX7_joined_94 ?_
          refine lv_iload hx hb dX7_joined_97 (lv_at hl 7 rfl) ?_
          refine lv_imul hx hb dX7_joined_99 ?_
          refine lv_iadd hx hb dX7_joined_100 ?_
          refine lv_ishl hx hb dX7_joined_101 ?_
          refine lv_goto (tgt := 106) hx hb dX7_joined_102 (by decide) ?_
          refine lv_ior hx hb dX7_joined_106 ?_
          refine lv_istore_n (lv' := [(3, .int (x3 ||| ((1 : Int32) <<< (((t_X4_digit g a x4 0) + ((g 0) * x6)) &&& 31)))), (7, .int (isInF (x5 + ((g 0) * x6)) x2)), (0, .ref (E.2.1 38)), (1, .int x1), (2, .int x2), (4, .int x4), (5, .int x5), (6, .int x6)]) hx hb dX7_joined_107 rfl hl (by decide) rfl (fun ls hl => ?_)
          refine lv_iinc (v := (x6 + 1)) (lv' := [(6, .int (x6 + 1)), (3, .int (x3 ||| ((1 : Int32) <<< (((t_X4_digit g a x4 0) + ((g 0) * x6)) &&& 31)))), (7, .int (isInF (x5 + ((g 0) * x6)) x2)), (0, .ref (E.2.1 38)), (1, .int x1), (2, .int x2), (4, .int x4), (5, .int x5)]) hx hb dX7_joined_108 hl (k := 7) rfl rfl (by decide) rfl (fun ls hl => ?_)
          refine lv_goto (tgt := 42) hx hb dX7_joined_111 (by decide) ?_
          exact ih x1 x2 (x3 ||| ((1 : Int32) <<< (((t_X4_digit g a x4 0) + ((g 0) * x6)) &&& 31))) x4 x5 (x6 + 1) _ _ _ hP hS (lv_sub hl [3, 4, 5, 1, 6, 7, 0] rfl) hf
  have B5 : ∀ (n : Nat) (x1 : Int32) (x2 : Int32) (x3 : Int32) (x4 : Int32) (H : Heap) (locs : List Loc) (ls : Array Slot), va_P E.1 vwCl (wX E g a) H → va_S A s.heap H locs → lv_has ls 8 [(0, .ref (E.2.1 38)), (1, .int x1), (2, .int x2), (3, .int x3), (4, .int x4)] → f_X7_joined_5 g a n x1 x2 x3 x4 = some res → W p l e ({ frames := 2, cells := 0, slots := 0, locals := 43 }) s m ([.ref (E.2.1 38), .int v1, .int v2] : List Value).toArray below meth c H locs 0 0 (MQ below ((xQi E res (wX E g a)) A) ([.ref (E.2.1 38), .int v1, .int v2] : List Value).toArray s 0 0 A) (F0 m 5 ls []) := by
    intro n
    induction n with
    | zero => intro x1 x2 x3 x4 H locs ls hP hS hl hf; exact absurd (show (none : Option (Int32)) = some res from hf) (by intro h; cases h)
    | succ n ih =>
      intro x1 x2 x3 x4 H locs ls hP hS hl hf
      replace hf := (e_X7_joined_5 g a n x1 x2 x3 x4).symm.trans hf
      refine lv_iload hx hb dX7_joined_5 (lv_at hl 4 rfl) ?_
      refine lv_aload_n hx hb dX7_joined_7 rfl (lv_at hl 0 rfl) ?_
      refine va_get (C := RX7) (T := TX7) (N := 3) hx hb hw bfX70 hown hK hP 38 (gx_38 E g a) rfl 0 (by decide) (hw _ bw479) (fun _ h9 => h9) rfl dX7_joined_8 ?_
      refine lv_iconst (v := 2) hx hb dX7_joined_11 (by decide) ?_
      refine xci (xRunV (rest := [.int x4]) (As := [.int 2]) (C := RX4) (k := 1) C0 (c_X4_power l E g a 2) bw55 bw489 bw22 bw58 bw59 hd_X4_power ⟨Nat.le_of_ble_eq_true rfl, Nat.le_of_ble_eq_true rfl⟩ hP (wX_D hD) hS (va_recv hK hP (ci := 4) rfl (gx_1 E g a)) rfl hl.1 rfl (Nat.le_of_ble_eq_true rfl) dX7_joined_12 ⟨Nat.zero_le _, Nat.zero_le _⟩) hS (fun H locs hP hS => ?_)
      refine lv_icmp_ge (tgt := 120) hx hb dX7_joined_15 (by decide) (fun c1 => ?_) (fun c1 => ?_)
      · replace hf := (if_pos c1).symm.trans hf
        refine lv_iload_n hx hb dX7_joined_120 rfl (lv_at hl 3 rfl) ?_
        exact xi_retS (fr := (fun r => r)) (fw := (fun r => wX E g a)) hx hb hr hlocks (Option.some.inj hf) hP hS dX7_joined_121
      · replace hf := (if_neg c1).symm.trans hf
        refine lv_iload hx hb dX7_joined_18 (lv_at hl 4 rfl) ?_
        refine lv_iload_n hx hb dX7_joined_20 rfl (lv_at hl 1 rfl) ?_
        refine xci (xRunN (rest := []) (As := [.int x4, .int x1]) (k := 2) C0 (c_isIn l E (wX E g a) x4 x1) bw8 nw19 bw13 bw18 hd_X11_isIn ⟨Nat.le_of_ble_eq_true rfl, Nat.le_of_ble_eq_true rfl⟩ hP (wX_D hD) hS rfl hl.1 rfl (Nat.le_of_ble_eq_true rfl) dX7_joined_21 ⟨Nat.zero_le _, Nat.zero_le _⟩) hS (fun H locs hP hS => ?_)
        refine lv_if_eq (tgt := 114) hx hb dX7_joined_24 (by decide) (fun c2 => ?_) (fun c2 => ?_)
        · replace hf := (if_pos c2).symm.trans hf
          refine lv_iinc (v := (x4 + 1)) (lv' := [(4, .int (x4 + 1)), (0, .ref (E.2.1 38)), (1, .int x1), (2, .int x2), (3, .int x3)]) hx hb dX7_joined_114 hl (k := 4) rfl rfl (by decide) rfl (fun ls hl => ?_)
          refine lv_goto (tgt := 5) hx hb dX7_joined_117 (by decide) ?_
          exact ih x1 x2 x3 (x4 + 1) _ _ _ hP hS (lv_sub hl [1, 2, 3, 4, 0] rfl) hf
        · replace hf := (if_neg c2).symm.trans hf
          refine lv_aload_n hx hb dX7_joined_27 rfl (lv_at hl 0 rfl) ?_
          refine va_get (C := RX7) (T := TX7) (N := 3) hx hb hw bfX70 hown hK hP 38 (gx_38 E g a) rfl 0 (by decide) (hw _ bw479) (fun _ h9 => h9) rfl dX7_joined_28 ?_
          refine lv_iload hx hb dX7_joined_31 (lv_at hl 4 rfl) ?_
          refine lv_iconst (v := 1) hx hb dX7_joined_33 (by decide) ?_
          refine xci (xRunV (rest := []) (As := [.int x4, .int 1]) (C := RX4) (k := 2) C0 (c_X4_digit l E g a x4 1) bw174 bw483 bw22 bw199 bw200 hd_X4_digit ⟨Nat.le_of_ble_eq_true rfl, Nat.le_of_ble_eq_true rfl⟩ hP (wX_D hD) hS (va_recv hK hP (ci := 4) rfl (gx_1 E g a)) rfl hl.1 rfl (Nat.le_of_ble_eq_true rfl) dX7_joined_34 ⟨Nat.zero_le _, Nat.zero_le _⟩) hS (fun H locs hP hS => ?_)
          refine lv_istore (lv' := [(5, .int (t_X4_digit g a x4 1)), (0, .ref (E.2.1 38)), (1, .int x1), (2, .int x2), (3, .int x3), (4, .int x4)]) hx hb dX7_joined_37 hl (by decide) rfl (fun ls hl => ?_)
          refine lv_iconst (v := 0) hx hb dX7_joined_39 (by decide) ?_
          refine lv_istore (lv' := [(6, .int 0), (5, .int (t_X4_digit g a x4 1)), (0, .ref (E.2.1 38)), (1, .int x1), (2, .int x2), (3, .int x3), (4, .int x4)]) hx hb dX7_joined_40 hl (by decide) rfl (fun ls hl => ?_)
          exact B42 (f_X7_joined_5 g a n) ih fu x1 x2 x3 x4 (t_X4_digit g a x4 1) 0 _ _ _ hP hS (lv_sub hl [2, 3, 4, 5, 6, 1, 0] rfl) hf
  refine lv_iconst (v := 0) hx hb dX7_joined_0 (by decide) ?_
  refine lv_istore_n (lv' := [(3, .int 0), (0, .ref (E.2.1 38)), (1, .int v1), (2, .int v2)]) hx hb dX7_joined_1 rfl hl (by decide) rfl (fun ls hl => ?_)
  refine lv_iconst (v := 0) hx hb dX7_joined_2 (by decide) ?_
  refine lv_istore (lv' := [(4, .int 0), (3, .int 0), (0, .ref (E.2.1 38)), (1, .int v1), (2, .int v2)]) hx hb dX7_joined_3 hl (by decide) rfl (fun ls hl => ?_)
  exact B5 fu v1 v2 0 0 _ _ _ hP hS (lv_sub hl [2, 3, 4, 1, 0] rfl) hf
def f_X7_takesAway (g : xG) (a : xA) (v1 : Int32) (v2 : Int32) (v3 : Int32) : Option (Int32 × xA) := Option.bind (f_X7_joined g a (t_X7_leftOf g a v1 v3) (t_X7_leftOf g a v3 v2)) (fun u1 => (if ((t_X7_leftOf g a v1 v2) &&& u1) = (t_X7_leftOf g a v1 v2) then some (0, (t_X7_setLeft g a v1 v2 ((t_X7_leftOf g a v1 v2) &&& u1))) else some (1, (t_X7_setLeft g a v1 v2 ((t_X7_leftOf g a v1 v2) &&& u1)))))
set_option maxRecDepth 100000 in
set_option maxHeartbeats 40000000 in
theorem c_X7_takesAway (l : Launch) (E : xE) (g : xG) (a : xA) (v1 : Int32) (v2 : Int32) (v3 : Int32) {res : Int32 × xA} (hf : f_X7_takesAway g a v1 v2 v3 = some res) : xM l E yX7_takesAway cX7_takesAway 6 (some .boolean) 3 70 [.ref (E.2.1 38), .int v1, .int v2, .int v3] (wX E g a) (xQi E res.1 (wX E g res.2)) := by
  unfold f_X7_takesAway at hf
  refine xM_of (by decide) (Nat.le_of_ble_eq_true rfl) ?_
  intro p e s m below meth c A hx hb hr hml hts hown hlocks hA hD hP hK hN hS ls hl
  have hw : ∀ w ∈ BW, w.before _ s = true := fun w h => hts w (List.mem_cons_of_mem _ h)
  have C0 : xCtx E p m c cX7_takesAway 6 s _ RX7 A yX7_takesAway cX7_takesAway 6 (some .boolean) := ⟨hx, hb, hml, hown, hts, hA, hK, hN⟩
  have hl : lv_has ls 6 [(0, .ref (E.2.1 38)), (1, .int v1), (2, .int v2), (3, .int v3)] := hl
  refine lv_aload_n hx hb dX7_takesAway_0 rfl (lv_at hl 0 rfl) ?_
  refine lv_iload_n hx hb dX7_takesAway_1 rfl (lv_at hl 1 rfl) ?_
  refine lv_iload_n hx hb dX7_takesAway_2 rfl (lv_at hl 2 rfl) ?_
  refine xci (xRunV (rest := []) (As := [.int v1, .int v2]) (C := RX7) (k := 2) C0 (c_X7_leftOf l E g a v1 v2) bw486 bw494 bw493 bw495 bw496 hd_X7_leftOf ⟨Nat.le_of_ble_eq_true rfl, Nat.le_of_ble_eq_true rfl⟩ hP (wX_D hD) hS (va_recv hK hP (ci := 7) rfl (gx_38 E g a)) rfl hl.1 rfl (Nat.le_of_ble_eq_true rfl) dX7_takesAway_3 ⟨Nat.zero_le _, Nat.zero_le _⟩) hS (fun H locs hP hS => ?_)
  refine lv_istore (lv' := [(4, .int (t_X7_leftOf g a v1 v2)), (0, .ref (E.2.1 38)), (1, .int v1), (2, .int v2), (3, .int v3)]) hx hb dX7_takesAway_6 hl (by decide) rfl (fun ls hl => ?_)
  refine lv_iload hx hb dX7_takesAway_8 (lv_at hl 0 rfl) ?_
  refine lv_aload_n hx hb dX7_takesAway_10 rfl (lv_at hl 1 rfl) ?_
  refine lv_aload_n hx hb dX7_takesAway_11 rfl (lv_at hl 1 rfl) ?_
  refine lv_iload_n hx hb dX7_takesAway_12 rfl (lv_at hl 2 rfl) ?_
  refine lv_iload_n hx hb dX7_takesAway_13 rfl (lv_at hl 4 rfl) ?_
  refine xci (xRunV (rest := [.ref (E.2.1 38), .int (t_X7_leftOf g a v1 v2)]) (As := [.int v1, .int v3]) (C := RX7) (k := 2) C0 (c_X7_leftOf l E g a v1 v3) bw486 bw494 bw493 bw495 bw496 hd_X7_leftOf ⟨Nat.le_of_ble_eq_true rfl, Nat.le_of_ble_eq_true rfl⟩ hP (wX_D hD) hS (va_recv hK hP (ci := 7) rfl (gx_38 E g a)) rfl hl.1 rfl (Nat.le_of_ble_eq_true rfl) dX7_takesAway_14 ⟨Nat.zero_le _, Nat.zero_le _⟩) hS (fun H locs hP hS => ?_)
  refine lv_aload_n hx hb dX7_takesAway_17 rfl (lv_at hl 1 rfl) ?_
  refine lv_iload_n hx hb dX7_takesAway_18 rfl (lv_at hl 4 rfl) ?_
  refine lv_iload_n hx hb dX7_takesAway_19 rfl (lv_at hl 3 rfl) ?_
  refine xci (xRunV (rest := [.int (t_X7_leftOf g a v1 v3), .ref (E.2.1 38), .int (t_X7_leftOf g a v1 v2)]) (As := [.int v3, .int v2]) (C := RX7) (k := 2) C0 (c_X7_leftOf l E g a v3 v2) bw486 bw494 bw493 bw495 bw496 hd_X7_leftOf ⟨Nat.le_of_ble_eq_true rfl, Nat.le_of_ble_eq_true rfl⟩ hP (wX_D hD) hS (va_recv hK hP (ci := 7) rfl (gx_38 E g a)) rfl hl.1 rfl (Nat.le_of_ble_eq_true rfl) dX7_takesAway_20 ⟨Nat.zero_le _, Nat.zero_le _⟩) hS (fun H locs hP hS => ?_)
  obtain ⟨u1, e2, hf⟩ := bd_some hf
  refine xci (xRunV (rest := [.int (t_X7_leftOf g a v1 v2)]) (As := [.int (t_X7_leftOf g a v1 v3), .int (t_X7_leftOf g a v3 v2)]) (C := RX7) (k := 2) C0 (c_X7_joined l E g a (t_X7_leftOf g a v1 v3) (t_X7_leftOf g a v3 v2) e2) bw510 bw511 bw493 bw512 bw513 hd_X7_joined ⟨Nat.le_of_ble_eq_true rfl, Nat.le_of_ble_eq_true rfl⟩ hP (wX_D hD) hS (va_recv hK hP (ci := 7) rfl (gx_38 E g a)) rfl hl.1 rfl (Nat.le_of_ble_eq_true rfl) dX7_takesAway_23 ⟨Nat.zero_le _, Nat.zero_le _⟩) hS (fun H locs hP hS => ?_)
  refine lv_iand hx hb dX7_takesAway_26 ?_
  refine lv_istore (lv' := [(5, .int ((t_X7_leftOf g a v1 v2) &&& u1)), (4, .int (t_X7_leftOf g a v1 v2)), (0, .ref (E.2.1 38)), (1, .int v1), (2, .int v2), (3, .int v3)]) hx hb dX7_takesAway_27 hl (by decide) rfl (fun ls hl => ?_)
  refine lv_aload_n hx hb dX7_takesAway_29 rfl (lv_at hl 2 rfl) ?_
  refine lv_iload_n hx hb dX7_takesAway_30 rfl (lv_at hl 3 rfl) ?_
  refine lv_iload_n hx hb dX7_takesAway_31 rfl (lv_at hl 4 rfl) ?_
  refine lv_iload hx hb dX7_takesAway_32 (lv_at hl 0 rfl) ?_
  refine xcv (xRunV (rest := []) (As := [.int v1, .int v2, .int ((t_X7_leftOf g a v1 v2) &&& u1)]) (C := RX7) (k := 3) C0 (c_X7_setLeft l E g a v1 v2 ((t_X7_leftOf g a v1 v2) &&& u1)) bw487 bw497 bw493 bw498 bw499 hd_X7_setLeft ⟨Nat.le_of_ble_eq_true rfl, Nat.le_of_ble_eq_true rfl⟩ hP (wX_D hD) hS (va_recv hK hP (ci := 7) rfl (gx_38 E g a)) rfl hl.1 rfl (Nat.le_of_ble_eq_true rfl) dX7_takesAway_34 ⟨Nat.zero_le _, Nat.zero_le _⟩) hS (fun H locs hP hS => ?_)
  refine lv_iload hx hb dX7_takesAway_37 (lv_at hl 0 rfl) ?_
  refine lv_iload hx hb dX7_takesAway_39 (lv_at hl 1 rfl) ?_
  refine lv_icmp_eq (tgt := 48) hx hb dX7_takesAway_41 (by decide) (fun c3 => ?_) (fun c3 => ?_)
  · replace hf := (if_pos c3).symm.trans hf
    refine lv_iconst (v := 0) hx hb dX7_takesAway_48 (by decide) ?_
    exact xz_retS (fr := (fun r => r.1)) (fw := (fun r => wX E g r.2)) hx hb hr hlocks (Option.some.inj hf) nz0 hP hS dX7_takesAway_49
  · replace hf := (if_neg c3).symm.trans hf
    refine lv_iconst (v := 1) hx hb dX7_takesAway_44 (by decide) ?_
    refine lv_goto (tgt := 49) hx hb dX7_takesAway_45 (by decide) ?_
    exact xz_retS (fr := (fun r => r.1)) (fw := (fun r => wX E g r.2)) hx hb hr hlocks (Option.some.inj hf) nz1 hP hS dX7_takesAway_49
def f_X7_isSomethingTakenAway_65 (g : xG) (K4 : xA → Int32 → Int32 → Option (Int32 × xA)) (K17 : xA → Int32 → Int32 → Int32 → Option (Int32 × xA)) (K31 : xA → Int32 → Int32 → Int32 → Int32 → Option (Int32 × xA)) (a : xA) (x1 : Int32) (x2 : Int32) (x3 : Int32) (x4 : Int32) (s0 : Int32) : Option (Int32 × xA) := (if s0 = 0 then K31 a x1 x2 x3 (x4 + 1) else Option.bind (f_X7_takesAway g a x2 x3 x4) (fun u9 => (if u9.1 = 0 then K31 u9.2 x1 x2 x3 (x4 + 1) else K31 u9.2 1 x2 x3 (x4 + 1))))
def f_X7_isSomethingTakenAway_31 (g : xG) (K4 : xA → Int32 → Int32 → Option (Int32 × xA)) (K17 : xA → Int32 → Int32 → Int32 → Option (Int32 × xA)) : Nat → xA → Int32 → Int32 → Int32 → Int32 → Option (Int32 × xA)
  | 0, _, _, _, _, _ => none
  | n + 1, a, x1, x2, x3, x4 => (if (t_X2_variableCount 1 g a) ≤ x4 then K17 a x1 x2 (x3 + 1) else (if x2 = x3 then f_X7_isSomethingTakenAway_65 g K4 K17 (f_X7_isSomethingTakenAway_31 g K4 K17 n) a x1 x2 x3 x4 0 else (if x2 = x4 then f_X7_isSomethingTakenAway_65 g K4 K17 (f_X7_isSomethingTakenAway_31 g K4 K17 n) a x1 x2 x3 x4 0 else (if x3 = x4 then f_X7_isSomethingTakenAway_65 g K4 K17 (f_X7_isSomethingTakenAway_31 g K4 K17 n) a x1 x2 x3 x4 0 else f_X7_isSomethingTakenAway_65 g K4 K17 (f_X7_isSomethingTakenAway_31 g K4 K17 n) a x1 x2 x3 x4 1))))
theorem e_X7_isSomethingTakenAway_31 (g : xG) (K4 : xA → Int32 → Int32 → Option (Int32 × xA)) (K17 : xA → Int32 → Int32 → Int32 → Option (Int32 × xA)) (n : Nat) (a : xA) (x1 : Int32) (x2 : Int32) (x3 : Int32) (x4 : Int32) : f_X7_isSomethingTakenAway_31 g K4 K17 (n + 1) a x1 x2 x3 x4 = (if (t_X2_variableCount 1 g a) ≤ x4 then K17 a x1 x2 (x3 + 1) else (if x2 = x3 then f_X7_isSomethingTakenAway_65 g K4 K17 (f_X7_isSomethingTakenAway_31 g K4 K17 n) a x1 x2 x3 x4 0 else (if x2 = x4 then f_X7_isSomethingTakenAway_65 g K4 K17 (f_X7_isSomethingTakenAway_31 g K4 K17 n) a x1 x2 x3 x4 0 else (if x3 = x4 then f_X7_isSomethingTakenAway_65 g K4 K17 (f_X7_isSomethingTakenAway_31 g K4 K17 n) a x1 x2 x3 x4 0 else f_X7_isSomethingTakenAway_65 g K4 K17 (f_X7_isSomethingTakenAway_31 g K4 K17 n) a x1 x2 x3 x4 1)))) := rfl
def f_X7_isSomethingTakenAway_17 (g : xG) (K4 : xA → Int32 → Int32 → Option (Int32 × xA)) : Nat → xA → Int32 → Int32 → Int32 → Option (Int32 × xA)
  | 0, _, _, _, _ => none
  | n + 1, a, x1, x2, x3 => (if (t_X2_variableCount 1 g a) ≤ x3 then K4 a x1 (x2 + 1) else f_X7_isSomethingTakenAway_31 g K4 (f_X7_isSomethingTakenAway_17 g K4 n) fu a x1 x2 x3 0)
theorem e_X7_isSomethingTakenAway_17 (g : xG) (K4 : xA → Int32 → Int32 → Option (Int32 × xA)) (n : Nat) (a : xA) (x1 : Int32) (x2 : Int32) (x3 : Int32) : f_X7_isSomethingTakenAway_17 g K4 (n + 1) a x1 x2 x3 = (if (t_X2_variableCount 1 g a) ≤ x3 then K4 a x1 (x2 + 1) else f_X7_isSomethingTakenAway_31 g K4 (f_X7_isSomethingTakenAway_17 g K4 n) fu a x1 x2 x3 0) := rfl
def f_X7_isSomethingTakenAway_4 (g : xG) : Nat → xA → Int32 → Int32 → Option (Int32 × xA)
  | 0, _, _, _ => none
  | n + 1, a, x1, x2 => (if (t_X2_variableCount 1 g a) ≤ x2 then ck (boB x1) (some (x1, a)) else f_X7_isSomethingTakenAway_17 g (f_X7_isSomethingTakenAway_4 g n) fu a x1 x2 0)
theorem e_X7_isSomethingTakenAway_4 (g : xG) (n : Nat) (a : xA) (x1 : Int32) (x2 : Int32) : f_X7_isSomethingTakenAway_4 g (n + 1) a x1 x2 = (if (t_X2_variableCount 1 g a) ≤ x2 then ck (boB x1) (some (x1, a)) else f_X7_isSomethingTakenAway_17 g (f_X7_isSomethingTakenAway_4 g n) fu a x1 x2 0) := rfl
def f_X7_isSomethingTakenAway (g : xG) (a : xA) : Option (Int32 × xA) := f_X7_isSomethingTakenAway_4 g fu a 0 0
set_option maxRecDepth 100000 in
set_option maxHeartbeats 40000000 in
theorem c_X7_isSomethingTakenAway (l : Launch) (E : xE) (g : xG) (a : xA) {res : Int32 × xA} (hf : f_X7_isSomethingTakenAway g a = some res) : xM l E yX7_isSomethingTakenAway cX7_isSomethingTakenAway 6 (some .boolean) 4 95 [.ref (E.2.1 38)] (wX E g a) (xQi E res.1 (wX E g res.2)) := by
  unfold f_X7_isSomethingTakenAway at hf
  refine xM_of (by decide) (Nat.le_of_ble_eq_true rfl) ?_
  intro p e s m below meth c A hx hb hr hml hts hown hlocks hA hD hP hK hN hS ls hl
  have hw : ∀ w ∈ BW, w.before _ s = true := fun w h => hts w (List.mem_cons_of_mem _ h)
  have C0 : xCtx E p m c cX7_isSomethingTakenAway 6 s _ RX7 A yX7_isSomethingTakenAway cX7_isSomethingTakenAway 6 (some .boolean) := ⟨hx, hb, hml, hown, hts, hA, hK, hN⟩
  have hl : lv_has ls 6 [(0, .ref (E.2.1 38))] := hl
  have B65 : ∀ (K4 : xA → Int32 → Int32 → Option (Int32 × xA)) (hK4 : ∀ (a : xA) (x1 : Int32) (x2 : Int32) (H : Heap) (locs : List Loc) (ls : Array Slot), va_P E.1 vwCl (wX E g a) H → va_S A s.heap H locs → lv_has ls 6 [(0, .ref (E.2.1 38)), (1, .int x1), (2, .int x2)] → K4 a x1 x2 = some res → W p l e ({ frames := 4, cells := 0, slots := 0, locals := 95 }) s m ([.ref (E.2.1 38)] : List Value).toArray below meth c H locs 0 0 (MQ below ((xQi E res.1 (wX E g res.2)) A) ([.ref (E.2.1 38)] : List Value).toArray s 0 0 A) (F0 m 4 ls [])) (K17 : xA → Int32 → Int32 → Int32 → Option (Int32 × xA)) (hK17 : ∀ (a : xA) (x1 : Int32) (x2 : Int32) (x3 : Int32) (H : Heap) (locs : List Loc) (ls : Array Slot), va_P E.1 vwCl (wX E g a) H → va_S A s.heap H locs → lv_has ls 6 [(0, .ref (E.2.1 38)), (1, .int x1), (2, .int x2), (3, .int x3)] → K17 a x1 x2 x3 = some res → W p l e ({ frames := 4, cells := 0, slots := 0, locals := 95 }) s m ([.ref (E.2.1 38)] : List Value).toArray below meth c H locs 0 0 (MQ below ((xQi E res.1 (wX E g res.2)) A) ([.ref (E.2.1 38)] : List Value).toArray s 0 0 A) (F0 m 17 ls [])) (K31 : xA → Int32 → Int32 → Int32 → Int32 → Option (Int32 × xA)) (hK31 : ∀ (a : xA) (x1 : Int32) (x2 : Int32) (x3 : Int32) (x4 : Int32) (H : Heap) (locs : List Loc) (ls : Array Slot), va_P E.1 vwCl (wX E g a) H → va_S A s.heap H locs → lv_has ls 6 [(0, .ref (E.2.1 38)), (1, .int x1), (2, .int x2), (3, .int x3), (4, .int x4)] → K31 a x1 x2 x3 x4 = some res → W p l e ({ frames := 4, cells := 0, slots := 0, locals := 95 }) s m ([.ref (E.2.1 38)] : List Value).toArray below meth c H locs 0 0 (MQ below ((xQi E res.1 (wX E g res.2)) A) ([.ref (E.2.1 38)] : List Value).toArray s 0 0 A) (F0 m 31 ls [])) (a : xA) (x1 : Int32) (x2 : Int32) (x3 : Int32) (x4 : Int32) (s0 : Int32) (H : Heap) (locs : List Loc) (ls : Array Slot), va_P E.1 vwCl (wX E g a) H → va_S A s.heap H locs → lv_has ls 6 [(0, .ref (E.2.1 38)), (1, .int x1), (2, .int x2), (3, .int x3), (4, .int x4)] → f_X7_isSomethingTakenAway_65 g K4 K17 K31 a x1 x2 x3 x4 s0 = some res → W p l e ({ frames := 4, cells := 0, slots := 0, locals := 95 }) s m ([.ref (E.2.1 38)] : List Value).toArray below meth c H locs 0 0 (MQ below ((xQi E res.1 (wX E g res.2)) A) ([.ref (E.2.1 38)] : List Value).toArray s 0 0 A) (F0 m 65 ls [.int s0]) := by
    intro K4 hK4 K17 hK17 K31 hK31 a x1 x2 x3 x4 s0 H locs ls hP hS hl hf
    unfold f_X7_isSomethingTakenAway_65 at hf
    refine lv_istore (lv' := [(5, .int s0), (0, .ref (E.2.1 38)), (1, .int x1), (2, .int x2), (3, .int x3), (4, .int x4)]) hx hb dX7_isSomethingTakenAway_65 hl (by decide) rfl (fun ls hl => ?_)
    refine lv_iload hx hb dX7_isSomethingTakenAway_67 (lv_at hl 0 rfl) ?_
    refine lv_if_eq (tgt := 85) hx hb dX7_isSomethingTakenAway_69 (by decide) (fun c8 => ?_) (fun c8 => ?_)
    · replace hf := (if_pos c8).symm.trans hf
      refine lv_iinc (v := (x4 + 1)) (lv' := [(4, .int (x4 + 1)), (5, .int s0), (0, .ref (E.2.1 38)), (1, .int x1), (2, .int x2), (3, .int x3)]) hx hb dX7_isSomethingTakenAway_85 hl (k := 5) rfl rfl (by decide) rfl (fun ls hl => ?_)
      refine lv_goto (tgt := 31) hx hb dX7_isSomethingTakenAway_88 (by decide) ?_
      exact hK31 a x1 x2 x3 (x4 + 1) _ _ _ hP hS (lv_sub hl [2, 3, 4, 5, 0] rfl) hf
    · replace hf := (if_neg c8).symm.trans hf
      refine lv_aload_n hx hb dX7_isSomethingTakenAway_72 rfl (lv_at hl 1 rfl) ?_
      refine lv_iload_n hx hb dX7_isSomethingTakenAway_73 rfl (lv_at hl 3 rfl) ?_
      refine lv_iload_n hx hb dX7_isSomethingTakenAway_74 rfl (lv_at hl 4 rfl) ?_
      refine lv_iload hx hb dX7_isSomethingTakenAway_75 (lv_at hl 5 rfl) ?_
      obtain ⟨u9, e10, hf⟩ := bd_some hf
      refine xci (xRunV (rest := []) (As := [.int x2, .int x3, .int x4]) (C := RX7) (k := 3) C0 (c_X7_takesAway l E g a x2 x3 x4 e10) bw514 bw515 bw493 bw516 bw517 hd_X7_takesAway ⟨Nat.le_of_ble_eq_true rfl, Nat.le_of_ble_eq_true rfl⟩ hP (wX_D hD) hS (va_recv hK hP (ci := 7) rfl (gx_38 E g a)) rfl hl.1 rfl (Nat.le_of_ble_eq_true rfl) dX7_isSomethingTakenAway_77 ⟨Nat.zero_le _, Nat.zero_le _⟩) hS (fun H locs hP hS => ?_)
      refine lv_if_eq (tgt := 85) hx hb dX7_isSomethingTakenAway_80 (by decide) (fun c11 => ?_) (fun c11 => ?_)
      · replace hf := (if_pos c11).symm.trans hf
        refine lv_iinc (v := (x4 + 1)) (lv' := [(4, .int (x4 + 1)), (5, .int s0), (0, .ref (E.2.1 38)), (1, .int x1), (2, .int x2), (3, .int x3)]) hx hb dX7_isSomethingTakenAway_85 hl (k := 5) rfl rfl (by decide) rfl (fun ls hl => ?_)
        refine lv_goto (tgt := 31) hx hb dX7_isSomethingTakenAway_88 (by decide) ?_
        exact hK31 u9.2 x1 x2 x3 (x4 + 1) _ _ _ hP hS (lv_sub hl [2, 3, 4, 5, 0] rfl) hf
      · replace hf := (if_neg c11).symm.trans hf
        refine lv_iconst (v := 1) hx hb dX7_isSomethingTakenAway_83 (by decide) ?_
        refine lv_istore_n (lv' := [(1, .int 1), (5, .int s0), (0, .ref (E.2.1 38)), (2, .int x2), (3, .int x3), (4, .int x4)]) hx hb dX7_isSomethingTakenAway_84 rfl hl (by decide) rfl (fun ls hl => ?_)
        refine lv_iinc (v := (x4 + 1)) (lv' := [(4, .int (x4 + 1)), (1, .int 1), (5, .int s0), (0, .ref (E.2.1 38)), (2, .int x2), (3, .int x3)]) hx hb dX7_isSomethingTakenAway_85 hl (k := 5) rfl rfl (by decide) rfl (fun ls hl => ?_)
        refine lv_goto (tgt := 31) hx hb dX7_isSomethingTakenAway_88 (by decide) ?_
        exact hK31 u9.2 1 x2 x3 (x4 + 1) _ _ _ hP hS (lv_sub hl [3, 1, 4, 5, 0] rfl) hf
  have B31 : ∀ (K4 : xA → Int32 → Int32 → Option (Int32 × xA)) (hK4 : ∀ (a : xA) (x1 : Int32) (x2 : Int32) (H : Heap) (locs : List Loc) (ls : Array Slot), va_P E.1 vwCl (wX E g a) H → va_S A s.heap H locs → lv_has ls 6 [(0, .ref (E.2.1 38)), (1, .int x1), (2, .int x2)] → K4 a x1 x2 = some res → W p l e ({ frames := 4, cells := 0, slots := 0, locals := 95 }) s m ([.ref (E.2.1 38)] : List Value).toArray below meth c H locs 0 0 (MQ below ((xQi E res.1 (wX E g res.2)) A) ([.ref (E.2.1 38)] : List Value).toArray s 0 0 A) (F0 m 4 ls [])) (K17 : xA → Int32 → Int32 → Int32 → Option (Int32 × xA)) (hK17 : ∀ (a : xA) (x1 : Int32) (x2 : Int32) (x3 : Int32) (H : Heap) (locs : List Loc) (ls : Array Slot), va_P E.1 vwCl (wX E g a) H → va_S A s.heap H locs → lv_has ls 6 [(0, .ref (E.2.1 38)), (1, .int x1), (2, .int x2), (3, .int x3)] → K17 a x1 x2 x3 = some res → W p l e ({ frames := 4, cells := 0, slots := 0, locals := 95 }) s m ([.ref (E.2.1 38)] : List Value).toArray below meth c H locs 0 0 (MQ below ((xQi E res.1 (wX E g res.2)) A) ([.ref (E.2.1 38)] : List Value).toArray s 0 0 A) (F0 m 17 ls [])) (n : Nat) (a : xA) (x1 : Int32) (x2 : Int32) (x3 : Int32) (x4 : Int32) (H : Heap) (locs : List Loc) (ls : Array Slot), va_P E.1 vwCl (wX E g a) H → va_S A s.heap H locs → lv_has ls 6 [(0, .ref (E.2.1 38)), (1, .int x1), (2, .int x2), (3, .int x3), (4, .int x4)] → f_X7_isSomethingTakenAway_31 g K4 K17 n a x1 x2 x3 x4 = some res → W p l e ({ frames := 4, cells := 0, slots := 0, locals := 95 }) s m ([.ref (E.2.1 38)] : List Value).toArray below meth c H locs 0 0 (MQ below ((xQi E res.1 (wX E g res.2)) A) ([.ref (E.2.1 38)] : List Value).toArray s 0 0 A) (F0 m 31 ls []) := by
    intro K4 hK4 K17 hK17 n
    induction n with
    | zero => intro a x1 x2 x3 x4 H locs ls hP hS hl hf; exact absurd (show (none : Option (Int32 × xA)) = some res from hf) (by intro h; cases h)
    | succ n ih =>
      intro a x1 x2 x3 x4 H locs ls hP hS hl hf
      replace hf := (e_X7_isSomethingTakenAway_31 g K4 K17 n a x1 x2 x3 x4).symm.trans hf
      refine lv_iload hx hb dX7_isSomethingTakenAway_31 (lv_at hl 4 rfl) ?_
      refine lv_aload_n hx hb dX7_isSomethingTakenAway_33 rfl (lv_at hl 0 rfl) ?_
      refine va_get (C := RX7) (T := TX7) (N := 3) hx hb hw bfX70 hown hK hP 38 (gx_38 E g a) rfl 1 (by decide) (hw _ bw480) (fun _ h9 => h9) rfl dX7_isSomethingTakenAway_34 ?_
      refine xci (xRunV (rest := [.int x4]) (As := []) (C := RX2) (k := 0) C0 (c_X2_variableCount l E 1 (by decide) g a) bw209 bw503 bw86 bw504 bw505 hd_X2_variableCount ⟨Nat.le_of_ble_eq_true rfl, Nat.le_of_ble_eq_true rfl⟩ hP (wX_D hD) hS (va_recv hK hP (ci := 2) rfl (gx_31 E g a)) rfl hl.1 rfl (Nat.le_of_ble_eq_true rfl) dX7_isSomethingTakenAway_37 ⟨Nat.zero_le _, Nat.zero_le _⟩) hS (fun H locs hP hS => ?_)
      refine lv_icmp_ge (tgt := 91) hx hb dX7_isSomethingTakenAway_40 (by decide) (fun c4 => ?_) (fun c4 => ?_)
      · replace hf := (if_pos c4).symm.trans hf
        refine lv_iinc (v := (x3 + 1)) (lv' := [(3, .int (x3 + 1)), (0, .ref (E.2.1 38)), (1, .int x1), (2, .int x2), (4, .int x4)]) hx hb dX7_isSomethingTakenAway_91 hl (k := 3) rfl rfl (by decide) rfl (fun ls hl => ?_)
        refine lv_goto (tgt := 17) hx hb dX7_isSomethingTakenAway_94 (by decide) ?_
        exact hK17 a x1 x2 (x3 + 1) _ _ _ hP hS (lv_sub hl [1, 2, 3, 0] rfl) hf
      · replace hf := (if_neg c4).symm.trans hf
        refine lv_iload_n hx hb dX7_isSomethingTakenAway_43 rfl (lv_at hl 2 rfl) ?_
        refine lv_iload_n hx hb dX7_isSomethingTakenAway_44 rfl (lv_at hl 3 rfl) ?_
        refine lv_icmp_eq (tgt := 64) hx hb dX7_isSomethingTakenAway_45 (by decide) (fun c5 => ?_) (fun c5 => ?_)
        · replace hf := (if_pos c5).symm.trans hf
          refine lv_iconst (v := 0) hx hb dX7_isSomethingTakenAway_64 (by decide) ?_
          exact B65 K4 hK4 K17 hK17 (f_X7_isSomethingTakenAway_31 g K4 K17 n) ih a x1 x2 x3 x4 0 _ _ _ hP hS (lv_sub hl [0, 1, 2, 3, 4] rfl) hf
        · replace hf := (if_neg c5).symm.trans hf
          refine lv_iload_n hx hb dX7_isSomethingTakenAway_48 rfl (lv_at hl 2 rfl) ?_
          refine lv_iload hx hb dX7_isSomethingTakenAway_49 (lv_at hl 4 rfl) ?_
          refine lv_icmp_eq (tgt := 64) hx hb dX7_isSomethingTakenAway_51 (by decide) (fun c6 => ?_) (fun c6 => ?_)
          · replace hf := (if_pos c6).symm.trans hf
            refine lv_iconst (v := 0) hx hb dX7_isSomethingTakenAway_64 (by decide) ?_
            exact B65 K4 hK4 K17 hK17 (f_X7_isSomethingTakenAway_31 g K4 K17 n) ih a x1 x2 x3 x4 0 _ _ _ hP hS (lv_sub hl [0, 1, 2, 3, 4] rfl) hf
          · replace hf := (if_neg c6).symm.trans hf
            refine lv_iload_n hx hb dX7_isSomethingTakenAway_54 rfl (lv_at hl 3 rfl) ?_
            refine lv_iload hx hb dX7_isSomethingTakenAway_55 (lv_at hl 4 rfl) ?_
            refine lv_icmp_eq (tgt := 64) hx hb dX7_isSomethingTakenAway_57 (by decide) (fun c7 => ?_) (fun c7 => ?_)
            · replace hf := (if_pos c7).symm.trans hf
              refine lv_iconst (v := 0) hx hb dX7_isSomethingTakenAway_64 (by decide) ?_
              exact B65 K4 hK4 K17 hK17 (f_X7_isSomethingTakenAway_31 g K4 K17 n) ih a x1 x2 x3 x4 0 _ _ _ hP hS (lv_sub hl [0, 1, 2, 3, 4] rfl) hf
            · replace hf := (if_neg c7).symm.trans hf
              refine lv_iconst (v := 1) hx hb dX7_isSomethingTakenAway_60 (by decide) ?_
              refine lv_goto (tgt := 65) hx hb dX7_isSomethingTakenAway_61 (by decide) ?_
              exact B65 K4 hK4 K17 hK17 (f_X7_isSomethingTakenAway_31 g K4 K17 n) ih a x1 x2 x3 x4 1 _ _ _ hP hS (lv_sub hl [0, 1, 2, 3, 4] rfl) hf
  have B17 : ∀ (K4 : xA → Int32 → Int32 → Option (Int32 × xA)) (hK4 : ∀ (a : xA) (x1 : Int32) (x2 : Int32) (H : Heap) (locs : List Loc) (ls : Array Slot), va_P E.1 vwCl (wX E g a) H → va_S A s.heap H locs → lv_has ls 6 [(0, .ref (E.2.1 38)), (1, .int x1), (2, .int x2)] → K4 a x1 x2 = some res → W p l e ({ frames := 4, cells := 0, slots := 0, locals := 95 }) s m ([.ref (E.2.1 38)] : List Value).toArray below meth c H locs 0 0 (MQ below ((xQi E res.1 (wX E g res.2)) A) ([.ref (E.2.1 38)] : List Value).toArray s 0 0 A) (F0 m 4 ls [])) (n : Nat) (a : xA) (x1 : Int32) (x2 : Int32) (x3 : Int32) (H : Heap) (locs : List Loc) (ls : Array Slot), va_P E.1 vwCl (wX E g a) H → va_S A s.heap H locs → lv_has ls 6 [(0, .ref (E.2.1 38)), (1, .int x1), (2, .int x2), (3, .int x3)] → f_X7_isSomethingTakenAway_17 g K4 n a x1 x2 x3 = some res → W p l e ({ frames := 4, cells := 0, slots := 0, locals := 95 }) s m ([.ref (E.2.1 38)] : List Value).toArray below meth c H locs 0 0 (MQ below ((xQi E res.1 (wX E g res.2)) A) ([.ref (E.2.1 38)] : List Value).toArray s 0 0 A) (F0 m 17 ls []) := by
    intro K4 hK4 n
    induction n with
    | zero => intro a x1 x2 x3 H locs ls hP hS hl hf; exact absurd (show (none : Option (Int32 × xA)) = some res from hf) (by intro h; cases h)
    | succ n ih =>
      intro a x1 x2 x3 H locs ls hP hS hl hf
      replace hf := (e_X7_isSomethingTakenAway_17 g K4 n a x1 x2 x3).symm.trans hf
      refine lv_iload_n hx hb dX7_isSomethingTakenAway_17 rfl (lv_at hl 3 rfl) ?_
      refine lv_aload_n hx hb dX7_isSomethingTakenAway_18 rfl (lv_at hl 0 rfl) ?_
      refine va_get (C := RX7) (T := TX7) (N := 3) hx hb hw bfX70 hown hK hP 38 (gx_38 E g a) rfl 1 (by decide) (hw _ bw480) (fun _ h9 => h9) rfl dX7_isSomethingTakenAway_19 ?_
      refine xci (xRunV (rest := [.int x3]) (As := []) (C := RX2) (k := 0) C0 (c_X2_variableCount l E 1 (by decide) g a) bw209 bw503 bw86 bw504 bw505 hd_X2_variableCount ⟨Nat.le_of_ble_eq_true rfl, Nat.le_of_ble_eq_true rfl⟩ hP (wX_D hD) hS (va_recv hK hP (ci := 2) rfl (gx_31 E g a)) rfl hl.1 rfl (Nat.le_of_ble_eq_true rfl) dX7_isSomethingTakenAway_22 ⟨Nat.zero_le _, Nat.zero_le _⟩) hS (fun H locs hP hS => ?_)
      refine lv_icmp_ge (tgt := 97) hx hb dX7_isSomethingTakenAway_25 (by decide) (fun c3 => ?_) (fun c3 => ?_)
      · replace hf := (if_pos c3).symm.trans hf
        refine lv_iinc (v := (x2 + 1)) (lv' := [(2, .int (x2 + 1)), (0, .ref (E.2.1 38)), (1, .int x1), (3, .int x3)]) hx hb dX7_isSomethingTakenAway_97 hl (k := 2) rfl rfl (by decide) rfl (fun ls hl => ?_)
        refine lv_goto (tgt := 4) hx hb dX7_isSomethingTakenAway_100 (by decide) ?_
        exact hK4 a x1 (x2 + 1) _ _ _ hP hS (lv_sub hl [1, 2, 0] rfl) hf
      · replace hf := (if_neg c3).symm.trans hf
        refine lv_iconst (v := 0) hx hb dX7_isSomethingTakenAway_28 (by decide) ?_
        refine lv_istore (lv' := [(4, .int 0), (0, .ref (E.2.1 38)), (1, .int x1), (2, .int x2), (3, .int x3)]) hx hb dX7_isSomethingTakenAway_29 hl (by decide) rfl (fun ls hl => ?_)
        exact B31 K4 hK4 (f_X7_isSomethingTakenAway_17 g K4 n) ih fu a x1 x2 x3 0 _ _ _ hP hS (lv_sub hl [1, 2, 3, 4, 0] rfl) hf
  have B4 : ∀ (n : Nat) (a : xA) (x1 : Int32) (x2 : Int32) (H : Heap) (locs : List Loc) (ls : Array Slot), va_P E.1 vwCl (wX E g a) H → va_S A s.heap H locs → lv_has ls 6 [(0, .ref (E.2.1 38)), (1, .int x1), (2, .int x2)] → f_X7_isSomethingTakenAway_4 g n a x1 x2 = some res → W p l e ({ frames := 4, cells := 0, slots := 0, locals := 95 }) s m ([.ref (E.2.1 38)] : List Value).toArray below meth c H locs 0 0 (MQ below ((xQi E res.1 (wX E g res.2)) A) ([.ref (E.2.1 38)] : List Value).toArray s 0 0 A) (F0 m 4 ls []) := by
    intro n
    induction n with
    | zero => intro a x1 x2 H locs ls hP hS hl hf; exact absurd (show (none : Option (Int32 × xA)) = some res from hf) (by intro h; cases h)
    | succ n ih =>
      intro a x1 x2 H locs ls hP hS hl hf
      replace hf := (e_X7_isSomethingTakenAway_4 g n a x1 x2).symm.trans hf
      refine lv_iload_n hx hb dX7_isSomethingTakenAway_4 rfl (lv_at hl 2 rfl) ?_
      refine lv_aload_n hx hb dX7_isSomethingTakenAway_5 rfl (lv_at hl 0 rfl) ?_
      refine va_get (C := RX7) (T := TX7) (N := 3) hx hb hw bfX70 hown hK hP 38 (gx_38 E g a) rfl 1 (by decide) (hw _ bw480) (fun _ h9 => h9) rfl dX7_isSomethingTakenAway_6 ?_
      refine xci (xRunV (rest := [.int x2]) (As := []) (C := RX2) (k := 0) C0 (c_X2_variableCount l E 1 (by decide) g a) bw209 bw503 bw86 bw504 bw505 hd_X2_variableCount ⟨Nat.le_of_ble_eq_true rfl, Nat.le_of_ble_eq_true rfl⟩ hP (wX_D hD) hS (va_recv hK hP (ci := 2) rfl (gx_31 E g a)) rfl hl.1 rfl (Nat.le_of_ble_eq_true rfl) dX7_isSomethingTakenAway_9 ⟨Nat.zero_le _, Nat.zero_le _⟩) hS (fun H locs hP hS => ?_)
      refine lv_icmp_ge (tgt := 103) hx hb dX7_isSomethingTakenAway_12 (by decide) (fun c1 => ?_) (fun c1 => ?_)
      · replace hf := (if_pos c1).symm.trans hf
        refine lv_iload_n hx hb dX7_isSomethingTakenAway_103 rfl (lv_at hl 1 rfl) ?_
        obtain ⟨k2, hf⟩ := ck_some hf
        exact xz_retS (fr := (fun r => r.1)) (fw := (fun r => wX E g r.2)) hx hb hr hlocks (Option.some.inj hf) (boB_bo k2) hP hS dX7_isSomethingTakenAway_104
      · replace hf := (if_neg c1).symm.trans hf
        refine lv_iconst (v := 0) hx hb dX7_isSomethingTakenAway_15 (by decide) ?_
        refine lv_istore_n (lv' := [(3, .int 0), (0, .ref (E.2.1 38)), (1, .int x1), (2, .int x2)]) hx hb dX7_isSomethingTakenAway_16 rfl hl (by decide) rfl (fun ls hl => ?_)
        exact B17 (f_X7_isSomethingTakenAway_4 g n) ih fu a x1 x2 0 _ _ _ hP hS (lv_sub hl [1, 2, 3, 0] rfl) hf
  refine lv_iconst (v := 0) hx hb dX7_isSomethingTakenAway_0 (by decide) ?_
  refine lv_istore_n (lv' := [(1, .int 0), (0, .ref (E.2.1 38))]) hx hb dX7_isSomethingTakenAway_1 rfl hl (by decide) rfl (fun ls hl => ?_)
  refine lv_iconst (v := 0) hx hb dX7_isSomethingTakenAway_2 (by decide) ?_
  refine lv_istore_n (lv' := [(2, .int 0), (1, .int 0), (0, .ref (E.2.1 38))]) hx hb dX7_isSomethingTakenAway_3 rfl hl (by decide) rfl (fun ls hl => ?_)
  exact B4 fu a 0 0 _ _ _ hP hS (lv_sub hl [2, 1, 0] rfl) hf
def f_X7_ofVariables_34 (g : xG) (a : xA) (x1 : Int32) (x2 : Int32) : Option (Int32 × xA) := some ((t_X7_leftOf g a x1 x2), a)
def f_X7_ofVariables_6 (g : xG) : Nat → xA → Int32 → Int32 → Int32 → Option (Int32 × xA)
  | 0, _, _, _, _ => none
  | n + 1, a, x1, x2, x3 => (if (9 * 36) < x3 then f_X7_ofVariables_34 g a x1 x2 else Option.bind (f_X7_isSomethingTakenAway g a) (fun u4 => (if u4.1 = 0 then f_X7_ofVariables_34 g u4.2 x1 x2 else f_X7_ofVariables_6 g n u4.2 x1 x2 (x3 + 1))))
theorem e_X7_ofVariables_6 (g : xG) (n : Nat) (a : xA) (x1 : Int32) (x2 : Int32) (x3 : Int32) : f_X7_ofVariables_6 g (n + 1) a x1 x2 x3 = (if (9 * 36) < x3 then f_X7_ofVariables_34 g a x1 x2 else Option.bind (f_X7_isSomethingTakenAway g a) (fun u4 => (if u4.1 = 0 then f_X7_ofVariables_34 g u4.2 x1 x2 else f_X7_ofVariables_6 g n u4.2 x1 x2 (x3 + 1)))) := rfl
def f_X7_ofVariables (g : xG) (a : xA) (v1 : Int32) (v2 : Int32) : Option (Int32 × xA) := Option.bind (f_X7_leaveAtFirst g a) (fun u1 => f_X7_ofVariables_6 g fu u1 v1 v2 0)
set_option maxRecDepth 100000 in
set_option maxHeartbeats 40000000 in
theorem c_X7_ofVariables (l : Launch) (E : xE) (g : xG) (a : xA) (v1 : Int32) (v2 : Int32) {res : Int32 × xA} (hf : f_X7_ofVariables g a v1 v2 = some res) : xM l E yX7_ofVariables cX7_ofVariables 4 (some .int) 5 120 [.ref (E.2.1 38), .int v1, .int v2] (wX E g a) (xQi E res.1 (wX E g res.2)) := by
  unfold f_X7_ofVariables at hf
  refine xM_of (by decide) (Nat.le_of_ble_eq_true rfl) ?_
  intro p e s m below meth c A hx hb hr hml hts hown hlocks hA hD hP hK hN hS ls hl
  have hw : ∀ w ∈ BW, w.before _ s = true := fun w h => hts w (List.mem_cons_of_mem _ h)
  have C0 : xCtx E p m c cX7_ofVariables 4 s _ RX7 A yX7_ofVariables cX7_ofVariables 4 (some .int) := ⟨hx, hb, hml, hown, hts, hA, hK, hN⟩
  have hl : lv_has ls 4 [(0, .ref (E.2.1 38)), (1, .int v1), (2, .int v2)] := hl
  have B34 : ∀ (a : xA) (x1 : Int32) (x2 : Int32) (H : Heap) (locs : List Loc) (ls : Array Slot), va_P E.1 vwCl (wX E g a) H → va_S A s.heap H locs → lv_has ls 4 [(0, .ref (E.2.1 38)), (1, .int x1), (2, .int x2)] → f_X7_ofVariables_34 g a x1 x2 = some res → W p l e ({ frames := 5, cells := 0, slots := 0, locals := 120 }) s m ([.ref (E.2.1 38), .int v1, .int v2] : List Value).toArray below meth c H locs 0 0 (MQ below ((xQi E res.1 (wX E g res.2)) A) ([.ref (E.2.1 38), .int v1, .int v2] : List Value).toArray s 0 0 A) (F0 m 34 ls []) := by
    intro a x1 x2 H locs ls hP hS hl hf
    unfold f_X7_ofVariables_34 at hf
    refine lv_aload_n hx hb dX7_ofVariables_34 rfl (lv_at hl 0 rfl) ?_
    refine lv_iload_n hx hb dX7_ofVariables_35 rfl (lv_at hl 1 rfl) ?_
    refine lv_iload_n hx hb dX7_ofVariables_36 rfl (lv_at hl 2 rfl) ?_
    refine xci (xRunV (rest := []) (As := [.int x1, .int x2]) (C := RX7) (k := 2) C0 (c_X7_leftOf l E g a x1 x2) bw486 bw494 bw493 bw495 bw496 hd_X7_leftOf ⟨Nat.le_of_ble_eq_true rfl, Nat.le_of_ble_eq_true rfl⟩ hP (wX_D hD) hS (va_recv hK hP (ci := 7) rfl (gx_38 E g a)) rfl hl.1 rfl (Nat.le_of_ble_eq_true rfl) dX7_ofVariables_37 ⟨Nat.zero_le _, Nat.zero_le _⟩) hS (fun H locs hP hS => ?_)
    exact xi_retS (fr := (fun r => r.1)) (fw := (fun r => wX E g r.2)) hx hb hr hlocks (Option.some.inj hf) hP hS dX7_ofVariables_40
  have B6 : ∀ (n : Nat) (a : xA) (x1 : Int32) (x2 : Int32) (x3 : Int32) (H : Heap) (locs : List Loc) (ls : Array Slot), va_P E.1 vwCl (wX E g a) H → va_S A s.heap H locs → lv_has ls 4 [(0, .ref (E.2.1 38)), (1, .int x1), (2, .int x2), (3, .int x3)] → f_X7_ofVariables_6 g n a x1 x2 x3 = some res → W p l e ({ frames := 5, cells := 0, slots := 0, locals := 120 }) s m ([.ref (E.2.1 38), .int v1, .int v2] : List Value).toArray below meth c H locs 0 0 (MQ below ((xQi E res.1 (wX E g res.2)) A) ([.ref (E.2.1 38), .int v1, .int v2] : List Value).toArray s 0 0 A) (F0 m 6 ls []) := by
    intro n
    induction n with
    | zero => intro a x1 x2 x3 H locs ls hP hS hl hf; exact absurd (show (none : Option (Int32 × xA)) = some res from hf) (by intro h; cases h)
    | succ n ih =>
      intro a x1 x2 x3 H locs ls hP hS hl hf
      replace hf := (e_X7_ofVariables_6 g n a x1 x2 x3).symm.trans hf
      refine lv_iload_n hx hb dX7_ofVariables_6 rfl (lv_at hl 3 rfl) ?_
      refine lv_bipush (v := 9) hx hb dX7_ofVariables_7 (by decide) ?_
      refine lv_aload_n hx hb dX7_ofVariables_9 rfl (lv_at hl 0 rfl) ?_
      refine va_get (C := RX7) (T := TX7) (N := 3) hx hb hw bfX70 hown hK hP 38 (gx_38 E g a) rfl 2 (by decide) (hw _ bw478) (fun _ h9 => h9) rfl dX7_ofVariables_10 ?_
      refine va_alen (v := 36) hx hb hK hP 39 0 (gx_39 E g a) rfl rfl dX7_ofVariables_13 ?_
      refine lv_imul hx hb dX7_ofVariables_14 ?_
      refine lv_icmp_gt (tgt := 34) hx hb dX7_ofVariables_15 (by decide) (fun c3 => ?_) (fun c3 => ?_)
      · replace hf := (if_pos c3).symm.trans hf
        exact B34 a x1 x2 _ _ _ hP hS (lv_sub hl [0, 1, 2] rfl) hf
      · replace hf := (if_neg c3).symm.trans hf
        refine lv_aload_n hx hb dX7_ofVariables_18 rfl (lv_at hl 0 rfl) ?_
        obtain ⟨u4, e5, hf⟩ := bd_some hf
        refine xci (xRunV (rest := []) (As := []) (C := RX7) (k := 0) C0 (c_X7_isSomethingTakenAway l E g a e5) bw518 bw522 bw493 bw523 bw524 hd_X7_isSomethingTakenAway ⟨Nat.le_of_ble_eq_true rfl, Nat.le_of_ble_eq_true rfl⟩ hP (wX_D hD) hS (va_recv hK hP (ci := 7) rfl (gx_38 E g a)) rfl hl.1 rfl (Nat.le_of_ble_eq_true rfl) dX7_ofVariables_19 ⟨Nat.zero_le _, Nat.zero_le _⟩) hS (fun H locs hP hS => ?_)
        refine lv_if_ne (tgt := 28) hx hb dX7_ofVariables_22 (by decide) (fun c6 => ?_) (fun c6 => ?_)
        · replace hf := (if_neg c6).symm.trans hf
          refine lv_iinc (v := (x3 + 1)) (lv' := [(3, .int (x3 + 1)), (0, .ref (E.2.1 38)), (1, .int x1), (2, .int x2)]) hx hb dX7_ofVariables_28 hl (k := 3) rfl rfl (by decide) rfl (fun ls hl => ?_)
          refine lv_goto (tgt := 6) hx hb dX7_ofVariables_31 (by decide) ?_
          exact ih u4.2 x1 x2 (x3 + 1) _ _ _ hP hS (lv_sub hl [1, 2, 3, 0] rfl) hf
        · replace hf := (if_pos c6).symm.trans hf
          refine lv_goto (tgt := 34) hx hb dX7_ofVariables_25 (by decide) ?_
          exact B34 u4.2 x1 x2 _ _ _ hP hS (lv_sub hl [0, 1, 2] rfl) hf
  refine lv_aload_n hx hb dX7_ofVariables_0 rfl (lv_at hl 0 rfl) ?_
  obtain ⟨u1, e2, hf⟩ := bd_some hf
  refine xcv (xRunV (rest := []) (As := []) (C := RX7) (k := 0) C0 (c_X7_leaveAtFirst l E g a e2) bw509 bw519 bw493 bw520 bw521 hd_X7_leaveAtFirst ⟨Nat.le_of_ble_eq_true rfl, Nat.le_of_ble_eq_true rfl⟩ hP (wX_D hD) hS (va_recv hK hP (ci := 7) rfl (gx_38 E g a)) rfl hl.1 rfl (Nat.le_of_ble_eq_true rfl) dX7_ofVariables_1 ⟨Nat.zero_le _, Nat.zero_le _⟩) hS (fun H locs hP hS => ?_)
  refine lv_iconst (v := 0) hx hb dX7_ofVariables_4 (by decide) ?_
  refine lv_istore_n (lv' := [(3, .int 0), (0, .ref (E.2.1 38)), (1, .int v1), (2, .int v2)]) hx hb dX7_ofVariables_5 rfl hl (by decide) rfl (fun ls hl => ?_)
  exact B6 fu u1 v1 v2 0 _ _ _ hP hS (lv_sub hl [1, 2, 3, 0] rfl) hf
def t_X9_canHold (g : xG) (a : xA) (v0 : Int32) : Int32 := (if (t_X9_isVariable g a v0) = 0 then (if v0 < 48 then (if v0 = 40 then 1 else (if v0 = 41 then 1 else (if v0 = 44 then 1 else (if v0 = 61 then 1 else (if v0 = 38 then 1 else (if v0 = 58 then 1 else 0)))))) else (if v0 ≤ 55 then 1 else (if v0 = 40 then 1 else (if v0 = 41 then 1 else (if v0 = 44 then 1 else (if v0 = 61 then 1 else (if v0 = 38 then 1 else (if v0 = 58 then 1 else 0)))))))) else 1)
set_option maxRecDepth 100000 in
set_option maxHeartbeats 40000000 in
theorem c_X9_canHold (l : Launch) (E : xE) (g : xG) (a : xA) (v0 : Int32) : xM l E yX9_canHold cX9_canHold 1 (some .boolean) 1 20 [.int v0] (wX E g a) (xQi E (t_X9_canHold g a v0) (wX E g a)) := by
  obtain ⟨res, hres⟩ : ∃ z, z = t_X9_canHold g a v0 := ⟨_, rfl⟩
  rw [← hres]
  have hf : _ = res := hres.symm
  unfold t_X9_canHold at hf
  refine xM_of (by decide) (Nat.le_of_ble_eq_true rfl) ?_
  intro p e s m below meth c A hx hb hr hml hts hown hlocks hA hD hP hK hN hS ls hl
  have hw : ∀ w ∈ BW, w.before _ s = true := fun w h => hts w (List.mem_cons_of_mem _ h)
  have C0 : xCtx E p m c cX9_canHold 1 s _ RX9 A yX9_canHold cX9_canHold 1 (some .boolean) := ⟨hx, hb, hml, hown, hts, hA, hK, hN⟩
  have hl : lv_has ls 1 [(0, .int v0)] := hl
  refine lv_iload_n hx hb dX9_canHold_0 rfl (lv_at hl 0 rfl) ?_
  refine xci (xRunS (rest := []) (As := [.int v0]) (k := 1) C0 (c_X9_isVariable l E g a v0) bw95 bw530 bw103 bw102 hd_X9_isVariable ⟨Nat.le_of_ble_eq_true rfl, Nat.le_of_ble_eq_true rfl⟩ hP (wX_D hD) hS rfl hl.1 rfl (Nat.le_of_ble_eq_true rfl) dX9_canHold_1 ⟨Nat.zero_le _, Nat.zero_le _⟩) hS (fun H locs hP hS => ?_)
  refine lv_if_ne (tgt := 55) hx hb dX9_canHold_4 (by decide) (fun c1 => ?_) (fun c1 => ?_)
  · replace hf := (if_neg c1).symm.trans hf
    refine lv_iconst (v := 1) hx hb dX9_canHold_55 (by decide) ?_
    refine lv_goto (tgt := 60) hx hb dX9_canHold_56 (by decide) ?_
    exact xz_retS (fr := (fun r => r)) (fw := (fun r => wX E g a)) hx hb hr hlocks hf nz1 hP hS dX9_canHold_60
  · replace hf := (if_pos c1).symm.trans hf
    refine lv_iload_n hx hb dX9_canHold_7 rfl (lv_at hl 0 rfl) ?_
    refine lv_bipush (v := 48) hx hb dX9_canHold_8 (by decide) ?_
    refine lv_icmp_lt (tgt := 19) hx hb dX9_canHold_10 (by decide) (fun c2 => ?_) (fun c2 => ?_)
    · replace hf := (if_pos c2).symm.trans hf
      refine lv_iload_n hx hb dX9_canHold_19 rfl (lv_at hl 0 rfl) ?_
      refine lv_bipush (v := 40) hx hb dX9_canHold_20 (by decide) ?_
      refine lv_icmp_eq (tgt := 55) hx hb dX9_canHold_22 (by decide) (fun c3 => ?_) (fun c3 => ?_)
      · replace hf := (if_pos c3).symm.trans hf
        refine lv_iconst (v := 1) hx hb dX9_canHold_55 (by decide) ?_
        refine lv_goto (tgt := 60) hx hb dX9_canHold_56 (by decide) ?_
        exact xz_retS (fr := (fun r => r)) (fw := (fun r => wX E g a)) hx hb hr hlocks hf nz1 hP hS dX9_canHold_60
      · replace hf := (if_neg c3).symm.trans hf
        refine lv_iload_n hx hb dX9_canHold_25 rfl (lv_at hl 0 rfl) ?_
        refine lv_bipush (v := 41) hx hb dX9_canHold_26 (by decide) ?_
        refine lv_icmp_eq (tgt := 55) hx hb dX9_canHold_28 (by decide) (fun c4 => ?_) (fun c4 => ?_)
        · replace hf := (if_pos c4).symm.trans hf
          refine lv_iconst (v := 1) hx hb dX9_canHold_55 (by decide) ?_
          refine lv_goto (tgt := 60) hx hb dX9_canHold_56 (by decide) ?_
          exact xz_retS (fr := (fun r => r)) (fw := (fun r => wX E g a)) hx hb hr hlocks hf nz1 hP hS dX9_canHold_60
        · replace hf := (if_neg c4).symm.trans hf
          refine lv_iload_n hx hb dX9_canHold_31 rfl (lv_at hl 0 rfl) ?_
          refine lv_bipush (v := 44) hx hb dX9_canHold_32 (by decide) ?_
          refine lv_icmp_eq (tgt := 55) hx hb dX9_canHold_34 (by decide) (fun c5 => ?_) (fun c5 => ?_)
          · replace hf := (if_pos c5).symm.trans hf
            refine lv_iconst (v := 1) hx hb dX9_canHold_55 (by decide) ?_
            refine lv_goto (tgt := 60) hx hb dX9_canHold_56 (by decide) ?_
            exact xz_retS (fr := (fun r => r)) (fw := (fun r => wX E g a)) hx hb hr hlocks hf nz1 hP hS dX9_canHold_60
          · replace hf := (if_neg c5).symm.trans hf
            refine lv_iload_n hx hb dX9_canHold_37 rfl (lv_at hl 0 rfl) ?_
            refine lv_bipush (v := 61) hx hb dX9_canHold_38 (by decide) ?_
            refine lv_icmp_eq (tgt := 55) hx hb dX9_canHold_40 (by decide) (fun c6 => ?_) (fun c6 => ?_)
            · replace hf := (if_pos c6).symm.trans hf
              refine lv_iconst (v := 1) hx hb dX9_canHold_55 (by decide) ?_
              refine lv_goto (tgt := 60) hx hb dX9_canHold_56 (by decide) ?_
              exact xz_retS (fr := (fun r => r)) (fw := (fun r => wX E g a)) hx hb hr hlocks hf nz1 hP hS dX9_canHold_60
            · replace hf := (if_neg c6).symm.trans hf
              refine lv_iload_n hx hb dX9_canHold_43 rfl (lv_at hl 0 rfl) ?_
              refine lv_bipush (v := 38) hx hb dX9_canHold_44 (by decide) ?_
              refine lv_icmp_eq (tgt := 55) hx hb dX9_canHold_46 (by decide) (fun c7 => ?_) (fun c7 => ?_)
              · replace hf := (if_pos c7).symm.trans hf
                refine lv_iconst (v := 1) hx hb dX9_canHold_55 (by decide) ?_
                refine lv_goto (tgt := 60) hx hb dX9_canHold_56 (by decide) ?_
                exact xz_retS (fr := (fun r => r)) (fw := (fun r => wX E g a)) hx hb hr hlocks hf nz1 hP hS dX9_canHold_60
              · replace hf := (if_neg c7).symm.trans hf
                refine lv_iload_n hx hb dX9_canHold_49 rfl (lv_at hl 0 rfl) ?_
                refine lv_bipush (v := 58) hx hb dX9_canHold_50 (by decide) ?_
                refine lv_icmp_ne (tgt := 59) hx hb dX9_canHold_52 (by decide) (fun c8 => ?_) (fun c8 => ?_)
                · replace hf := (if_neg c8).symm.trans hf
                  refine lv_iconst (v := 0) hx hb dX9_canHold_59 (by decide) ?_
                  exact xz_retS (fr := (fun r => r)) (fw := (fun r => wX E g a)) hx hb hr hlocks hf nz0 hP hS dX9_canHold_60
                · replace hf := (if_pos c8).symm.trans hf
                  refine lv_iconst (v := 1) hx hb dX9_canHold_55 (by decide) ?_
                  refine lv_goto (tgt := 60) hx hb dX9_canHold_56 (by decide) ?_
                  exact xz_retS (fr := (fun r => r)) (fw := (fun r => wX E g a)) hx hb hr hlocks hf nz1 hP hS dX9_canHold_60
    · replace hf := (if_neg c2).symm.trans hf
      refine lv_iload_n hx hb dX9_canHold_13 rfl (lv_at hl 0 rfl) ?_
      refine lv_bipush (v := 55) hx hb dX9_canHold_14 (by decide) ?_
      refine lv_icmp_le (tgt := 55) hx hb dX9_canHold_16 (by decide) (fun c9 => ?_) (fun c9 => ?_)
      · replace hf := (if_pos c9).symm.trans hf
        refine lv_iconst (v := 1) hx hb dX9_canHold_55 (by decide) ?_
        refine lv_goto (tgt := 60) hx hb dX9_canHold_56 (by decide) ?_
        exact xz_retS (fr := (fun r => r)) (fw := (fun r => wX E g a)) hx hb hr hlocks hf nz1 hP hS dX9_canHold_60
      · replace hf := (if_neg c9).symm.trans hf
        refine lv_iload_n hx hb dX9_canHold_19 rfl (lv_at hl 0 rfl) ?_
        refine lv_bipush (v := 40) hx hb dX9_canHold_20 (by decide) ?_
        refine lv_icmp_eq (tgt := 55) hx hb dX9_canHold_22 (by decide) (fun c10 => ?_) (fun c10 => ?_)
        · replace hf := (if_pos c10).symm.trans hf
          refine lv_iconst (v := 1) hx hb dX9_canHold_55 (by decide) ?_
          refine lv_goto (tgt := 60) hx hb dX9_canHold_56 (by decide) ?_
          exact xz_retS (fr := (fun r => r)) (fw := (fun r => wX E g a)) hx hb hr hlocks hf nz1 hP hS dX9_canHold_60
        · replace hf := (if_neg c10).symm.trans hf
          refine lv_iload_n hx hb dX9_canHold_25 rfl (lv_at hl 0 rfl) ?_
          refine lv_bipush (v := 41) hx hb dX9_canHold_26 (by decide) ?_
          refine lv_icmp_eq (tgt := 55) hx hb dX9_canHold_28 (by decide) (fun c11 => ?_) (fun c11 => ?_)
          · replace hf := (if_pos c11).symm.trans hf
            refine lv_iconst (v := 1) hx hb dX9_canHold_55 (by decide) ?_
            refine lv_goto (tgt := 60) hx hb dX9_canHold_56 (by decide) ?_
            exact xz_retS (fr := (fun r => r)) (fw := (fun r => wX E g a)) hx hb hr hlocks hf nz1 hP hS dX9_canHold_60
          · replace hf := (if_neg c11).symm.trans hf
            refine lv_iload_n hx hb dX9_canHold_31 rfl (lv_at hl 0 rfl) ?_
            refine lv_bipush (v := 44) hx hb dX9_canHold_32 (by decide) ?_
            refine lv_icmp_eq (tgt := 55) hx hb dX9_canHold_34 (by decide) (fun c12 => ?_) (fun c12 => ?_)
            · replace hf := (if_pos c12).symm.trans hf
              refine lv_iconst (v := 1) hx hb dX9_canHold_55 (by decide) ?_
              refine lv_goto (tgt := 60) hx hb dX9_canHold_56 (by decide) ?_
              exact xz_retS (fr := (fun r => r)) (fw := (fun r => wX E g a)) hx hb hr hlocks hf nz1 hP hS dX9_canHold_60
            · replace hf := (if_neg c12).symm.trans hf
              refine lv_iload_n hx hb dX9_canHold_37 rfl (lv_at hl 0 rfl) ?_
              refine lv_bipush (v := 61) hx hb dX9_canHold_38 (by decide) ?_
              refine lv_icmp_eq (tgt := 55) hx hb dX9_canHold_40 (by decide) (fun c13 => ?_) (fun c13 => ?_)
              · replace hf := (if_pos c13).symm.trans hf
                refine lv_iconst (v := 1) hx hb dX9_canHold_55 (by decide) ?_
                refine lv_goto (tgt := 60) hx hb dX9_canHold_56 (by decide) ?_
                exact xz_retS (fr := (fun r => r)) (fw := (fun r => wX E g a)) hx hb hr hlocks hf nz1 hP hS dX9_canHold_60
              · replace hf := (if_neg c13).symm.trans hf
                refine lv_iload_n hx hb dX9_canHold_43 rfl (lv_at hl 0 rfl) ?_
                refine lv_bipush (v := 38) hx hb dX9_canHold_44 (by decide) ?_
                refine lv_icmp_eq (tgt := 55) hx hb dX9_canHold_46 (by decide) (fun c14 => ?_) (fun c14 => ?_)
                · replace hf := (if_pos c14).symm.trans hf
                  refine lv_iconst (v := 1) hx hb dX9_canHold_55 (by decide) ?_
                  refine lv_goto (tgt := 60) hx hb dX9_canHold_56 (by decide) ?_
                  exact xz_retS (fr := (fun r => r)) (fw := (fun r => wX E g a)) hx hb hr hlocks hf nz1 hP hS dX9_canHold_60
                · replace hf := (if_neg c14).symm.trans hf
                  refine lv_iload_n hx hb dX9_canHold_49 rfl (lv_at hl 0 rfl) ?_
                  refine lv_bipush (v := 58) hx hb dX9_canHold_50 (by decide) ?_
                  refine lv_icmp_ne (tgt := 59) hx hb dX9_canHold_52 (by decide) (fun c15 => ?_) (fun c15 => ?_)
                  · replace hf := (if_neg c15).symm.trans hf
                    refine lv_iconst (v := 0) hx hb dX9_canHold_59 (by decide) ?_
                    exact xz_retS (fr := (fun r => r)) (fw := (fun r => wX E g a)) hx hb hr hlocks hf nz0 hP hS dX9_canHold_60
                  · replace hf := (if_pos c15).symm.trans hf
                    refine lv_iconst (v := 1) hx hb dX9_canHold_55 (by decide) ?_
                    refine lv_goto (tgt := 60) hx hb dX9_canHold_56 (by decide) ?_
                    exact xz_retS (fr := (fun r => r)) (fw := (fun r => wX E g a)) hx hb hr hlocks hf nz1 hP hS dX9_canHold_60
def f_X9_add (g : xG) (a : xA) (v1 : Int32) : Option (xG × xA) := (if (g 6) < 0 then some (g, a) else (if 60 ≤ (g 6) then some (g, a) else ck (inB (g 6) 60) (some ((upd g 6 ((g 6) + 1)), (upA a 20 (upd (a 20) ((g 6) : Int32).toNatClampNeg (vp_nar .char v1)))))))
set_option maxRecDepth 100000 in
set_option maxHeartbeats 40000000 in
theorem c_X9_add (l : Launch) (E : xE) (g : xG) (a : xA) (v1 : Int32) {res : xG × xA} (hf : f_X9_add g a v1 = some res) : xM l E yX9_add cX9_add 2 none 0 0 [.ref (E.2.1 19), .int v1] (wX E g a) (xQv E (wX E res.1 res.2)) := by
  unfold f_X9_add at hf
  refine xM_of (by decide) (Nat.le_of_ble_eq_true rfl) ?_
  intro p e s m below meth c A hx hb hr hml hts hown hlocks hA hD hP hK hN hS ls hl
  have hw : ∀ w ∈ BW, w.before _ s = true := fun w h => hts w (List.mem_cons_of_mem _ h)
  have C0 : xCtx E p m c cX9_add 2 s _ RX9 A yX9_add cX9_add 2 none := ⟨hx, hb, hml, hown, hts, hA, hK, hN⟩
  have hl : lv_has ls 2 [(0, .ref (E.2.1 19)), (1, .int v1)] := hl
  refine lv_aload_n hx hb dX9_add_0 rfl (lv_at hl 0 rfl) ?_
  refine va_get (C := RX9) (T := TX9) (N := 2) hx hb hw bfX90 hown hK hP 19 (gx_19 E g a) rfl 0 (by decide) (hw _ bw532) (fun _ h9 => h9) rfl dX9_add_1 ?_
  refine lv_if_lt (tgt := 39) hx hb dX9_add_4 (by decide) (fun c1 => ?_) (fun c1 => ?_)
  · replace hf := (if_pos c1).symm.trans hf
    exact xv_retS (fw := (fun r => wX E r.1 r.2)) hx hb hr hlocks (Option.some.inj hf) hP hS dX9_add_39
  · replace hf := (if_neg c1).symm.trans hf
    refine lv_aload_n hx hb dX9_add_7 rfl (lv_at hl 0 rfl) ?_
    refine va_get (C := RX9) (T := TX9) (N := 2) hx hb hw bfX90 hown hK hP 19 (gx_19 E g a) rfl 0 (by decide) (hw _ bw532) (fun _ h9 => h9) rfl dX9_add_8 ?_
    refine lv_aload_n hx hb dX9_add_11 rfl (lv_at hl 0 rfl) ?_
    refine va_get (C := RX9) (T := TX9) (N := 2) hx hb hw bfX90 hown hK hP 19 (gx_19 E g a) rfl 1 (by decide) (hw _ bw94) (fun _ h9 => h9) rfl dX9_add_12 ?_
    refine va_alen (v := 60) hx hb hK hP 20 1 (gx_20 E g a) rfl rfl dX9_add_15 ?_
    refine lv_icmp_ge (tgt := 39) hx hb dX9_add_16 (by decide) (fun c2 => ?_) (fun c2 => ?_)
    · replace hf := (if_pos c2).symm.trans hf
      exact xv_retS (fw := (fun r => wX E r.1 r.2)) hx hb hr hlocks (Option.some.inj hf) hP hS dX9_add_39
    · replace hf := (if_neg c2).symm.trans hf
      refine lv_aload_n hx hb dX9_add_19 rfl (lv_at hl 0 rfl) ?_
      refine va_get (C := RX9) (T := TX9) (N := 2) hx hb hw bfX90 hown hK hP 19 (gx_19 E g a) rfl 1 (by decide) (hw _ bw94) (fun _ h9 => h9) rfl dX9_add_20 ?_
      refine lv_aload_n hx hb dX9_add_23 rfl (lv_at hl 0 rfl) ?_
      refine va_get (C := RX9) (T := TX9) (N := 2) hx hb hw bfX90 hown hK hP 19 (gx_19 E g a) rfl 0 (by decide) (hw _ bw532) (fun _ h9 => h9) rfl dX9_add_24 ?_
      refine lv_iload_n hx hb dX9_add_27 rfl (lv_at hl 1 rfl) ?_
      obtain ⟨k3, hf⟩ := ck_some hf
      refine va_cast hx hb hK hP (wX_D hD) hS 20 1 (gx_20 E g a) rfl (inB_in k3) dX9_add_28 (fun H locs hP _ hS => ?_)
      have hP := xP_eq (sx_a20 E g a (upd (a 20) ((g 6) : Int32).toNatClampNeg (vp_nar .char v1))) hP
      refine lv_aload_n hx hb dX9_add_29 rfl (lv_at hl 0 rfl) ?_
      refine lv_dup hx hb dX9_add_30 rfl ?_
      refine va_get (C := RX9) (T := TX9) (N := 2) hx hb hw bfX90 hown hK hP 19 (gx_19 E g (upA a 20 (upd (a 20) ((g 6) : Int32).toNatClampNeg (vp_nar .char v1)))) rfl 0 (by decide) (hw _ bw532) (fun _ h9 => h9) rfl dX9_add_31 ?_
      refine lv_iconst (v := 1) hx hb dX9_add_34 (by decide) ?_
      refine lv_iadd hx hb dX9_add_35 ?_
      refine va_put (v := .int ((g 6) + 1)) (ty := .int) (C := RX9) (T := TX9) (N := 2) hx hb hw bfX90 tyX9 tyX9_ok nmX9 hown hK hP (wX_D hD) hS 19 (gx_19 E g (upA a 20 (upd (a 20) ((g 6) : Int32).toNatClampNeg (vp_nar .char v1)))) rfl 0 (by decide) (hw _ bw532) (fun _ h9 => h9) rfl (by decide +kernel) rfl rfl (Nat.le_of_ble_eq_true rfl) dX9_add_36 (fun H locs hP _ hS => ?_)
      have hP := xP_eq (sx_g6 E g (upA a 20 (upd (a 20) ((g 6) : Int32).toNatClampNeg (vp_nar .char v1))) ((g 6) + 1)) hP
      exact xv_retS (fw := (fun r => wX E r.1 r.2)) hx hb hr hlocks (Option.some.inj hf) hP hS dX9_add_39
def f_X10_begin_19 : Nat → xG → xA → Int32 → Int32 → Option (xG × xA)
  | 0, _, _, _, _ => none
  | n + 1, g, a, x1, x2 => (if (g 0) ≤ x2 then some (g, (upA a 6 (putF 9 (a 6) 8 x1))) else f_X10_begin_19 n g a (x1 ||| ((1 : Int32) <<< ((x2 + ((g 0) * x2)) &&& 31))) (x2 + 1))
theorem e_X10_begin_19 (n : Nat) (g : xG) (a : xA) (x1 : Int32) (x2 : Int32) : f_X10_begin_19 (n + 1) g a x1 x2 = (if (g 0) ≤ x2 then some (g, (upA a 6 (putF 9 (a 6) 8 x1))) else f_X10_begin_19 n g a (x1 ||| ((1 : Int32) <<< ((x2 + ((g 0) * x2)) &&& 31))) (x2 + 1)) := rfl
def f_X10_begin (g : xG) (a : xA) : Option (xG × xA) := f_X10_begin_19 fu (upd g 1 0) (upA a 5 (putF 9 (a 5) 8 2)) 0 0
set_option maxRecDepth 100000 in
set_option maxHeartbeats 40000000 in
theorem c_X10_begin (l : Launch) (E : xE) (g : xG) (a : xA) {res : xG × xA} (hf : f_X10_begin g a = some res) : xM l E yX10_begin cX10_begin 3 none 1 22 [.ref (E.2.1 4)] (wX E g a) (xQv E (wX E res.1 res.2)) := by
  unfold f_X10_begin at hf
  refine xM_of (by decide) (Nat.le_of_ble_eq_true rfl) ?_
  intro p e s m below meth c A hx hb hr hml hts hown hlocks hA hD hP hK hN hS ls hl
  have hw : ∀ w ∈ BW, w.before _ s = true := fun w h => hts w (List.mem_cons_of_mem _ h)
  have C0 : xCtx E p m c cX10_begin 3 s _ RX10 A yX10_begin cX10_begin 3 none := ⟨hx, hb, hml, hown, hts, hA, hK, hN⟩
  have hl : lv_has ls 3 [(0, .ref (E.2.1 4))] := hl
  have B19 : ∀ (n : Nat) (g : xG) (a : xA) (x1 : Int32) (x2 : Int32) (H : Heap) (locs : List Loc) (ls : Array Slot), va_P E.1 vwCl (wX E g a) H → va_S A s.heap H locs → lv_has ls 3 [(0, .ref (E.2.1 4)), (1, .int x1), (2, .int x2)] → f_X10_begin_19 n g a x1 x2 = some res → W p l e ({ frames := 1, cells := 0, slots := 0, locals := 22 }) s m ([.ref (E.2.1 4)] : List Value).toArray below meth c H locs 0 0 (MQ below ((xQv E (wX E res.1 res.2)) A) ([.ref (E.2.1 4)] : List Value).toArray s 0 0 A) (F0 m 19 ls []) := by
    intro n
    induction n with
    | zero => intro g a x1 x2 H locs ls hP hS hl hf; exact absurd (show (none : Option (xG × xA)) = some res from hf) (by intro h; cases h)
    | succ n ih =>
      intro g a x1 x2 H locs ls hP hS hl hf
      replace hf := (e_X10_begin_19 n g a x1 x2).symm.trans hf
      refine lv_iload_n hx hb dX10_begin_19 rfl (lv_at hl 2 rfl) ?_
      refine lv_aload_n hx hb dX10_begin_20 rfl (lv_at hl 0 rfl) ?_
      refine va_get (C := RX10) (T := TX10) (N := 4) hx hb hw bfX100 hown hK hP 4 (gx_4 E g a) rfl 1 (by decide) (hw _ bw535) (fun _ h9 => h9) rfl dX10_begin_21 ?_
      refine va_get (C := RX4) (T := TX4) (N := 3) hx hb hw bfX40 hown hK hP 1 (gx_1 E g a) rfl 0 (by decide) (hw _ bw537) (fun _ h9 => h9) rfl dX10_begin_24 ?_
      refine lv_icmp_ge (tgt := 52) hx hb dX10_begin_27 (by decide) (fun c1 => ?_) (fun c1 => ?_)
      · replace hf := (if_pos c1).symm.trans hf
        refine lv_aload_n hx hb dX10_begin_52 rfl (lv_at hl 0 rfl) ?_
        refine va_get (C := RX10) (T := TX10) (N := 4) hx hb hw bfX100 hown hK hP 4 (gx_4 E g a) rfl 3 (by decide) (hw _ bw177) (fun _ h9 => h9) rfl dX10_begin_53 ?_
        refine lv_bipush (v := 8) hx hb dX10_begin_56 (by decide) ?_
        refine lv_iload_n hx hb dX10_begin_58 rfl (lv_at hl 1 rfl) ?_
        refine xcv (xRunN (rest := []) (As := [.ref (E.2.1 6), .int 8, .int x1]) (k := 3) C0 (c_put l E (wX E g a) 6 8 x1 (gx_6 E g a) (Nat.le_of_ble_eq_true rfl) (sx_a6 E g a (putF 9 (a 6) 8 x1))) bw14 nw23 bw13 bw23 hd_X11_put ⟨Nat.le_of_ble_eq_true rfl, Nat.le_of_ble_eq_true rfl⟩ hP (wX_D hD) hS rfl hl.1 rfl (Nat.le_of_ble_eq_true rfl) dX10_begin_59 ⟨Nat.zero_le _, Nat.zero_le _⟩) hS (fun H locs hP hS => ?_)
        exact xv_retS (fw := (fun r => wX E r.1 r.2)) hx hb hr hlocks (Option.some.inj hf) hP hS dX10_begin_62
      · replace hf := (if_neg c1).symm.trans hf
        refine lv_iload_n hx hb dX10_begin_30 rfl (lv_at hl 1 rfl) ?_
        refine lv_iconst (v := 1) hx hb dX10_begin_31 (by decide) ?_
        refine lv_iload_n hx hb dX10_begin_32 rfl (lv_at hl 2 rfl) ?_
        refine lv_aload_n hx hb dX10_begin_33 rfl (lv_at hl 0 rfl) ?_
        refine va_get (C := RX10) (T := TX10) (N := 4) hx hb hw bfX100 hown hK hP 4 (gx_4 E g a) rfl 1 (by decide) (hw _ bw535) (fun _ h9 => h9) rfl dX10_begin_34 ?_
        refine va_get (C := RX4) (T := TX4) (N := 3) hx hb hw bfX40 hown hK hP 1 (gx_1 E g a) rfl 0 (by decide) (hw _ bw537) (fun _ h9 => h9) rfl dX10_begin_37 ?_
        refine lv_iload_n hx hb dX10_begin_40 rfl (lv_at hl 2 rfl) ?_
        refine lv_imul hx hb dX10_begin_41 ?_
        refine lv_iadd hx hb dX10_begin_42 ?_
        refine lv_ishl hx hb dX10_begin_43 ?_
        refine lv_ior hx hb dX10_begin_44 ?_
        refine lv_istore_n (lv' := [(1, .int (x1 ||| ((1 : Int32) <<< ((x2 + ((g 0) * x2)) &&& 31)))), (0, .ref (E.2.1 4)), (2, .int x2)]) hx hb dX10_begin_45 rfl hl (by decide) rfl (fun ls hl => ?_)
        refine lv_iinc (v := (x2 + 1)) (lv' := [(2, .int (x2 + 1)), (1, .int (x1 ||| ((1 : Int32) <<< ((x2 + ((g 0) * x2)) &&& 31)))), (0, .ref (E.2.1 4))]) hx hb dX10_begin_46 hl (k := 2) rfl rfl (by decide) rfl (fun ls hl => ?_)
        refine lv_goto (tgt := 19) hx hb dX10_begin_49 (by decide) ?_
        exact ih g a (x1 ||| ((1 : Int32) <<< ((x2 + ((g 0) * x2)) &&& 31))) (x2 + 1) _ _ _ hP hS (lv_sub hl [2, 1, 0] rfl) hf
  refine lv_aload_n hx hb dX10_begin_0 rfl (lv_at hl 0 rfl) ?_
  refine lv_iconst (v := 0) hx hb dX10_begin_1 (by decide) ?_
  refine va_put (v := .int 0) (ty := .int) (C := RX10) (T := TX10) (N := 4) hx hb hw bfX100 tyX10 tyX10_ok nmX10 hown hK hP (wX_D hD) hS 4 (gx_4 E g a) rfl 0 (by decide) (hw _ bw108) (fun _ h9 => h9) rfl (by decide +kernel) rfl rfl (Nat.le_of_ble_eq_true rfl) dX10_begin_2 (fun H locs hP _ hS => ?_)
  have hP := xP_eq (sx_g1 E g a 0) hP
  refine lv_aload_n hx hb dX10_begin_5 rfl (lv_at hl 0 rfl) ?_
  refine va_get (C := RX10) (T := TX10) (N := 4) hx hb hw bfX100 hown hK hP 4 (gx_4 E (upd g 1 0) a) rfl 2 (by decide) (hw _ bw118) (fun _ h9 => h9) rfl dX10_begin_6 ?_
  refine lv_bipush (v := 8) hx hb dX10_begin_9 (by decide) ?_
  refine lv_iconst (v := 2) hx hb dX10_begin_11 (by decide) ?_
  refine xcv (xRunN (rest := []) (As := [.ref (E.2.1 5), .int 8, .int 2]) (k := 3) C0 (c_put l E (wX E (upd g 1 0) a) 5 8 2 (gx_5 E (upd g 1 0) a) (Nat.le_of_ble_eq_true rfl) (sx_a5 E (upd g 1 0) a (putF 9 (a 5) 8 2))) bw14 nw23 bw13 bw23 hd_X11_put ⟨Nat.le_of_ble_eq_true rfl, Nat.le_of_ble_eq_true rfl⟩ hP (wX_D hD) hS rfl hl.1 rfl (Nat.le_of_ble_eq_true rfl) dX10_begin_12 ⟨Nat.zero_le _, Nat.zero_le _⟩) hS (fun H locs hP hS => ?_)
  refine lv_iconst (v := 0) hx hb dX10_begin_15 (by decide) ?_
  refine lv_istore_n (lv' := [(1, .int 0), (0, .ref (E.2.1 4))]) hx hb dX10_begin_16 rfl hl (by decide) rfl (fun ls hl => ?_)
  refine lv_iconst (v := 0) hx hb dX10_begin_17 (by decide) ?_
  refine lv_istore_n (lv' := [(2, .int 0), (1, .int 0), (0, .ref (E.2.1 4))]) hx hb dX10_begin_18 rfl hl (by decide) rfl (fun ls hl => ?_)
  exact B19 fu (upd g 1 0) (upA a 5 (putF 9 (a 5) 8 2)) 0 0 _ _ _ hP hS (lv_sub hl [2, 1, 0] rfl) hf
def t_X10_setTuples (g : xG) (a : xA) (v1 : Int32) (v2 : Int32) : xA := (upA a 6 (putF 9 (a 6) v1 v2))
set_option maxRecDepth 100000 in
set_option maxHeartbeats 40000000 in
theorem c_X10_setTuples (l : Launch) (E : xE) (g : xG) (a : xA) (v1 : Int32) (v2 : Int32) : xM l E yX10_setTuples cX10_setTuples 3 none 1 22 [.ref (E.2.1 4), .int v1, .int v2] (wX E g a) (xQv E (wX E g (t_X10_setTuples g a v1 v2))) := by
  obtain ⟨res, hres⟩ : ∃ z, z = t_X10_setTuples g a v1 v2 := ⟨_, rfl⟩
  rw [← hres]
  have hf : _ = res := hres.symm
  unfold t_X10_setTuples at hf
  refine xM_of (by decide) (Nat.le_of_ble_eq_true rfl) ?_
  intro p e s m below meth c A hx hb hr hml hts hown hlocks hA hD hP hK hN hS ls hl
  have hw : ∀ w ∈ BW, w.before _ s = true := fun w h => hts w (List.mem_cons_of_mem _ h)
  have C0 : xCtx E p m c cX10_setTuples 3 s _ RX10 A yX10_setTuples cX10_setTuples 3 none := ⟨hx, hb, hml, hown, hts, hA, hK, hN⟩
  have hl : lv_has ls 3 [(0, .ref (E.2.1 4)), (1, .int v1), (2, .int v2)] := hl
  refine lv_aload_n hx hb dX10_setTuples_0 rfl (lv_at hl 0 rfl) ?_
  refine va_get (C := RX10) (T := TX10) (N := 4) hx hb hw bfX100 hown hK hP 4 (gx_4 E g a) rfl 3 (by decide) (hw _ bw177) (fun _ h9 => h9) rfl dX10_setTuples_1 ?_
  refine lv_iload_n hx hb dX10_setTuples_4 rfl (lv_at hl 1 rfl) ?_
  refine lv_iload_n hx hb dX10_setTuples_5 rfl (lv_at hl 2 rfl) ?_
  refine xcv (xRunN (rest := []) (As := [.ref (E.2.1 6), .int v1, .int v2]) (k := 3) C0 (c_put l E (wX E g a) 6 v1 v2 (gx_6 E g a) (Nat.le_of_ble_eq_true rfl) (sx_a6 E g a (putF 9 (a 6) v1 v2))) bw14 nw23 bw13 bw23 hd_X11_put ⟨Nat.le_of_ble_eq_true rfl, Nat.le_of_ble_eq_true rfl⟩ hP (wX_D hD) hS rfl hl.1 rfl (Nat.le_of_ble_eq_true rfl) dX10_setTuples_6 ⟨Nat.zero_le _, Nat.zero_le _⟩) hS (fun H locs hP hS => ?_)
  exact xv_retS (fw := (fun r => wX E g r)) hx hb hr hlocks hf hP hS dX10_setTuples_9
def f_X10_add (g : xG) (a : xA) (v1 : Int32) (v2 : Int32) : Option (Int32 × xG × xA) := some ((g 1), (upd g 1 ((g 1) + 1)), (upA (upA a 5 (putF 9 (a 5) (g 1) v1)) 6 (putF 9 ((upA a 5 (putF 9 (a 5) (g 1) v1)) 6) (g 1) v2)))
set_option maxRecDepth 100000 in
set_option maxHeartbeats 40000000 in
theorem c_X10_add (l : Launch) (E : xE) (g : xG) (a : xA) (v1 : Int32) (v2 : Int32) {res : Int32 × xG × xA} (hf : f_X10_add g a v1 v2 = some res) : xM l E yX10_add cX10_add 4 (some .int) 1 22 [.ref (E.2.1 4), .int v1, .int v2] (wX E g a) (xQi E res.1 (wX E res.2.1 res.2.2)) := by
  unfold f_X10_add at hf
  refine xM_of (by decide) (Nat.le_of_ble_eq_true rfl) ?_
  intro p e s m below meth c A hx hb hr hml hts hown hlocks hA hD hP hK hN hS ls hl
  have hw : ∀ w ∈ BW, w.before _ s = true := fun w h => hts w (List.mem_cons_of_mem _ h)
  have C0 : xCtx E p m c cX10_add 4 s _ RX10 A yX10_add cX10_add 4 (some .int) := ⟨hx, hb, hml, hown, hts, hA, hK, hN⟩
  have hl : lv_has ls 4 [(0, .ref (E.2.1 4)), (1, .int v1), (2, .int v2)] := hl
  refine lv_aload_n hx hb dX10_add_0 rfl (lv_at hl 0 rfl) ?_
  refine va_get (C := RX10) (T := TX10) (N := 4) hx hb hw bfX100 hown hK hP 4 (gx_4 E g a) rfl 0 (by decide) (hw _ bw108) (fun _ h9 => h9) rfl dX10_add_1 ?_
  refine lv_istore_n (lv' := [(3, .int (g 1)), (0, .ref (E.2.1 4)), (1, .int v1), (2, .int v2)]) hx hb dX10_add_4 rfl hl (by decide) rfl (fun ls hl => ?_)
  refine lv_aload_n hx hb dX10_add_5 rfl (lv_at hl 1 rfl) ?_
  refine va_get (C := RX10) (T := TX10) (N := 4) hx hb hw bfX100 hown hK hP 4 (gx_4 E g a) rfl 2 (by decide) (hw _ bw118) (fun _ h9 => h9) rfl dX10_add_6 ?_
  refine lv_iload_n hx hb dX10_add_9 rfl (lv_at hl 0 rfl) ?_
  refine lv_iload_n hx hb dX10_add_10 rfl (lv_at hl 2 rfl) ?_
  refine xcv (xRunN (rest := []) (As := [.ref (E.2.1 5), .int (g 1), .int v1]) (k := 3) C0 (c_put l E (wX E g a) 5 (g 1) v1 (gx_5 E g a) (Nat.le_of_ble_eq_true rfl) (sx_a5 E g a (putF 9 (a 5) (g 1) v1))) bw14 nw23 bw13 bw23 hd_X11_put ⟨Nat.le_of_ble_eq_true rfl, Nat.le_of_ble_eq_true rfl⟩ hP (wX_D hD) hS rfl hl.1 rfl (Nat.le_of_ble_eq_true rfl) dX10_add_11 ⟨Nat.zero_le _, Nat.zero_le _⟩) hS (fun H locs hP hS => ?_)
  refine lv_aload_n hx hb dX10_add_14 rfl (lv_at hl 1 rfl) ?_
  refine va_get (C := RX10) (T := TX10) (N := 4) hx hb hw bfX100 hown hK hP 4 (gx_4 E g (upA a 5 (putF 9 (a 5) (g 1) v1))) rfl 3 (by decide) (hw _ bw177) (fun _ h9 => h9) rfl dX10_add_15 ?_
  refine lv_iload_n hx hb dX10_add_18 rfl (lv_at hl 0 rfl) ?_
  refine lv_iload_n hx hb dX10_add_19 rfl (lv_at hl 3 rfl) ?_
  refine xcv (xRunN (rest := []) (As := [.ref (E.2.1 6), .int (g 1), .int v2]) (k := 3) C0 (c_put l E (wX E g (upA a 5 (putF 9 (a 5) (g 1) v1))) 6 (g 1) v2 (gx_6 E g (upA a 5 (putF 9 (a 5) (g 1) v1))) (Nat.le_of_ble_eq_true rfl) (sx_a6 E g (upA a 5 (putF 9 (a 5) (g 1) v1)) (putF 9 ((upA a 5 (putF 9 (a 5) (g 1) v1)) 6) (g 1) v2))) bw14 nw23 bw13 bw23 hd_X11_put ⟨Nat.le_of_ble_eq_true rfl, Nat.le_of_ble_eq_true rfl⟩ hP (wX_D hD) hS rfl hl.1 rfl (Nat.le_of_ble_eq_true rfl) dX10_add_20 ⟨Nat.zero_le _, Nat.zero_le _⟩) hS (fun H locs hP hS => ?_)
  refine lv_aload_n hx hb dX10_add_23 rfl (lv_at hl 1 rfl) ?_
  refine lv_dup hx hb dX10_add_24 rfl ?_
  refine va_get (C := RX10) (T := TX10) (N := 4) hx hb hw bfX100 hown hK hP 4 (gx_4 E g (upA (upA a 5 (putF 9 (a 5) (g 1) v1)) 6 (putF 9 ((upA a 5 (putF 9 (a 5) (g 1) v1)) 6) (g 1) v2))) rfl 0 (by decide) (hw _ bw108) (fun _ h9 => h9) rfl dX10_add_25 ?_
  refine lv_iconst (v := 1) hx hb dX10_add_28 (by decide) ?_
  refine lv_iadd hx hb dX10_add_29 ?_
  refine va_put (v := .int ((g 1) + 1)) (ty := .int) (C := RX10) (T := TX10) (N := 4) hx hb hw bfX100 tyX10 tyX10_ok nmX10 hown hK hP (wX_D hD) hS 4 (gx_4 E g (upA (upA a 5 (putF 9 (a 5) (g 1) v1)) 6 (putF 9 ((upA a 5 (putF 9 (a 5) (g 1) v1)) 6) (g 1) v2))) rfl 0 (by decide) (hw _ bw108) (fun _ h9 => h9) rfl (by decide +kernel) rfl rfl (Nat.le_of_ble_eq_true rfl) dX10_add_30 (fun H locs hP _ hS => ?_)
  have hP := xP_eq (sx_g1 E g (upA (upA a 5 (putF 9 (a 5) (g 1) v1)) 6 (putF 9 ((upA a 5 (putF 9 (a 5) (g 1) v1)) 6) (g 1) v2)) ((g 1) + 1)) hP
  refine lv_iload_n hx hb dX10_add_33 rfl (lv_at hl 0 rfl) ?_
  exact xi_retS (fr := (fun r => r.1)) (fw := (fun r => wX E r.2.1 r.2.2)) hx hb hr hlocks (Option.some.inj hf) hP hS dX10_add_34
