/-! X2_allowAll, X4_digit, X2_allowOnly, X10_tuplesOf, X2_holds, X2_holdsFrom, X2_completed, X2_hasSolution, X1_tuplesOfHead, X2_isThere, X2_variableCount, X2_countSolutions, X2_lowestSolution, X2_holdsEverywhere, X2_stepOn, X2_countByTryingAll, X2_isLikeOnLike, X2_standing, X2_isLeft, X2_supported, X2_isSomethingTakenAway, X2_valuesLeft, X3_triedKeepsAll -/
def f_X2_allowAll_2 (j : Nat) (g : xG) : Nat → xA → Int32 → Option (xA)
  | 0, _, _ => none
  | n + 1, a, x1 => (if 6 ≤ x1 then some a else ck (inB x1 6) (f_X2_allowAll_2 j g n (upA a (29 + 7 * j) (upd (a (29 + 7 * j)) (x1 : Int32).toNatClampNeg (t_X4_allValues g a))) (x1 + 1)))
theorem e_X2_allowAll_2 (j : Nat) (g : xG) (n : Nat) (a : xA) (x1 : Int32) : f_X2_allowAll_2 j g (n + 1) a x1 = (if 6 ≤ x1 then some a else ck (inB x1 6) (f_X2_allowAll_2 j g n (upA a (29 + 7 * j) (upd (a (29 + 7 * j)) (x1 : Int32).toNatClampNeg (t_X4_allValues g a))) (x1 + 1))) := rfl
def f_X2_allowAll (j : Nat) (g : xG) (a : xA) : Option (xA) := f_X2_allowAll_2 j g fu a 0
set_option maxRecDepth 100000 in
set_option maxHeartbeats 40000000 in
theorem c_X2_allowAll (l : Launch) (E : xE) (j : Nat) (hj : j < 2) (g : xG) (a : xA) {res : xA} (hf : f_X2_allowAll j g a = some res) : xM l E yX2_allowAll cX2_allowAll 2 none 1 20 [.ref (E.2.1 (24 + 7 * j))] (wX E g a) (xQv E (wX E g res)) := by
  unfold f_X2_allowAll at hf
  refine xM_of (by decide) (Nat.le_of_ble_eq_true rfl) ?_
  intro p e s m below meth c A hx hb hr hml hts hown hlocks hA hD hP hK hN hS ls hl
  have hw : ∀ w ∈ BW, w.before _ s = true := fun w h => hts w (List.mem_cons_of_mem _ h)
  have C0 : xCtx E p m c cX2_allowAll 2 s _ RX2 A yX2_allowAll cX2_allowAll 2 none := ⟨hx, hb, hml, hown, hts, hA, hK, hN⟩
  have hl : lv_has ls 2 [(0, .ref (E.2.1 (24 + 7 * j)))] := hl
  have B2 : ∀ (n : Nat) (a : xA) (x1 : Int32) (H : Heap) (locs : List Loc) (ls : Array Slot), va_P E.1 vwCl (wX E g a) H → va_S A s.heap H locs → lv_has ls 2 [(0, .ref (E.2.1 (24 + 7 * j))), (1, .int x1)] → f_X2_allowAll_2 j g n a x1 = some res → W p l e ({ frames := 1, cells := 0, slots := 0, locals := 20 }) s m ([.ref (E.2.1 (24 + 7 * j))] : List Value).toArray below meth c H locs 0 0 (MQ below ((xQv E (wX E g res)) A) ([.ref (E.2.1 (24 + 7 * j))] : List Value).toArray s 0 0 A) (F0 m 2 ls []) := by
    intro n
    induction n with
    | zero => intro a x1 H locs ls hP hS hl hf; exact absurd (show (none : Option (xA)) = some res from hf) (by intro h; cases h)
    | succ n ih =>
      intro a x1 H locs ls hP hS hl hf
      replace hf := (e_X2_allowAll_2 j g n a x1).symm.trans hf
      refine lv_iload_n hx hb dX2_allowAll_2 rfl (lv_at hl 1 rfl) ?_
      refine lv_aload_n hx hb dX2_allowAll_3 rfl (lv_at hl 0 rfl) ?_
      refine va_get (C := RX2) (T := TX2) (N := 10) hx hb hw bfX20 hown hK hP (24 + 7 * j) (gx_inst E g a j hj) rfl 8 (by decide) (hw _ bw74) (fun _ h9 => h9) rfl dX2_allowAll_4 ?_
      refine va_alen (v := 6) hx hb hK hP (29 + 7 * j) 0 (gx_ia29 E g a j hj) rfl rfl dX2_allowAll_7 ?_
      refine lv_icmp_ge (tgt := 30) hx hb dX2_allowAll_8 (by decide) (fun c1 => ?_) (fun c1 => ?_)
      · replace hf := (if_pos c1).symm.trans hf
        exact xv_retS (fw := (fun r => wX E g r)) hx hb hr hlocks (Option.some.inj hf) hP hS dX2_allowAll_30
      · replace hf := (if_neg c1).symm.trans hf
        refine lv_aload_n hx hb dX2_allowAll_11 rfl (lv_at hl 0 rfl) ?_
        refine va_get (C := RX2) (T := TX2) (N := 10) hx hb hw bfX20 hown hK hP (24 + 7 * j) (gx_inst E g a j hj) rfl 8 (by decide) (hw _ bw74) (fun _ h9 => h9) rfl dX2_allowAll_12 ?_
        refine lv_iload_n hx hb dX2_allowAll_15 rfl (lv_at hl 1 rfl) ?_
        refine lv_aload_n hx hb dX2_allowAll_16 rfl (lv_at hl 0 rfl) ?_
        refine va_get (C := RX2) (T := TX2) (N := 10) hx hb hw bfX20 hown hK hP (24 + 7 * j) (gx_inst E g a j hj) rfl 1 (by decide) (hw _ bw76) (fun _ h9 => h9) rfl dX2_allowAll_17 ?_
        refine xci (xRunV (rest := [.int x1, .ref (E.2.1 (29 + 7 * j))]) (As := []) (C := RX4) (k := 0) C0 (c_X4_allValues l E g a) bw169 bw171 bw22 bw172 bw173 hd_X4_allValues ⟨Nat.le_of_ble_eq_true rfl, Nat.le_of_ble_eq_true rfl⟩ hP (wX_D hD) hS (va_recv hK hP (ci := 4) rfl (gx_1 E g a)) rfl hl.1 rfl (Nat.le_of_ble_eq_true rfl) dX2_allowAll_20 ⟨Nat.zero_le _, Nat.zero_le _⟩) hS (fun H locs hP hS => ?_)
        obtain ⟨k2, hf⟩ := ck_some hf
        refine va_iast hx hb hK hP (wX_D hD) hS (29 + 7 * j) 0 (gx_ia29 E g a j hj) rfl (inB_in k2) dX2_allowAll_23 (fun H locs hP _ hS => ?_)
        have hP := xP_eq (sx_ia29 E g a j hj (upd (a (29 + 7 * j)) (x1 : Int32).toNatClampNeg (t_X4_allValues g a))) hP
        refine lv_iinc (v := (x1 + 1)) (lv' := [(1, .int (x1 + 1)), (0, .ref (E.2.1 (24 + 7 * j)))]) hx hb dX2_allowAll_24 hl (k := 1) rfl rfl (by decide) rfl (fun ls hl => ?_)
        refine lv_goto (tgt := 2) hx hb dX2_allowAll_27 (by decide) ?_
        exact ih (upA a (29 + 7 * j) (upd (a (29 + 7 * j)) (x1 : Int32).toNatClampNeg (t_X4_allValues g a))) (x1 + 1) _ _ _ hP hS (lv_sub hl [1, 0] rfl) hf
  refine lv_iconst (v := 0) hx hb dX2_allowAll_0 (by decide) ?_
  refine lv_istore_n (lv' := [(1, .int 0), (0, .ref (E.2.1 (24 + 7 * j)))]) hx hb dX2_allowAll_1 rfl hl (by decide) rfl (fun ls hl => ?_)
  exact B2 fu a 0 _ _ _ hP hS (lv_sub hl [1, 0] rfl) hf
def t_X4_digit (g : xG) (a : xA) (v1 : Int32) (v2 : Int32) : Int32 := ((((atF 27 (a 3) v1) : Int32) >>> ((5 * v2) &&& 31)) &&& 31)
set_option maxRecDepth 100000 in
set_option maxHeartbeats 40000000 in
theorem c_X4_digit (l : Launch) (E : xE) (g : xG) (a : xA) (v1 : Int32) (v2 : Int32) : xM l E yX4_digit cX4_digit 3 (some .int) 1 21 [.ref (E.2.1 1), .int v1, .int v2] (wX E g a) (xQi E (t_X4_digit g a v1 v2) (wX E g a)) := by
  obtain ⟨res, hres⟩ : ∃ z, z = t_X4_digit g a v1 v2 := ⟨_, rfl⟩
  rw [← hres]
  have hf : _ = res := hres.symm
  unfold t_X4_digit at hf
  refine xM_of (by decide) (Nat.le_of_ble_eq_true rfl) ?_
  intro p e s m below meth c A hx hb hr hml hts hown hlocks hA hD hP hK hN hS ls hl
  have hw : ∀ w ∈ BW, w.before _ s = true := fun w h => hts w (List.mem_cons_of_mem _ h)
  have C0 : xCtx E p m c cX4_digit 3 s _ RX4 A yX4_digit cX4_digit 3 (some .int) := ⟨hx, hb, hml, hown, hts, hA, hK, hN⟩
  have hl : lv_has ls 3 [(0, .ref (E.2.1 1)), (1, .int v1), (2, .int v2)] := hl
  refine lv_aload_n hx hb dX4_digit_0 rfl (lv_at hl 0 rfl) ?_
  refine va_get (C := RX4) (T := TX4) (N := 3) hx hb hw bfX40 hown hK hP 1 (gx_1 E g a) rfl 2 (by decide) (hw _ bw11) (fun _ h9 => h9) rfl dX4_digit_1 ?_
  refine lv_iload_n hx hb dX4_digit_4 rfl (lv_at hl 1 rfl) ?_
  refine xci (xRunN (rest := []) (As := [.ref (E.2.1 3), .int v1]) (k := 2) C0 (c_at l E (wX E g a) 3 v1 (gx_3 E g a) (Nat.le_of_ble_eq_true rfl)) bw9 nw11 bw13 bw12 hd_X11_at ⟨Nat.le_of_ble_eq_true rfl, Nat.le_of_ble_eq_true rfl⟩ hP (wX_D hD) hS rfl hl.1 rfl (Nat.le_of_ble_eq_true rfl) dX4_digit_5 ⟨Nat.zero_le _, Nat.zero_le _⟩) hS (fun H locs hP hS => ?_)
  refine lv_iconst (v := 5) hx hb dX4_digit_8 (by decide) ?_
  refine lv_iload_n hx hb dX4_digit_9 rfl (lv_at hl 2 rfl) ?_
  refine lv_imul hx hb dX4_digit_10 ?_
  refine lv_ishr hx hb dX4_digit_11 ?_
  refine lv_bipush (v := 31) hx hb dX4_digit_12 (by decide) ?_
  refine lv_iand hx hb dX4_digit_14 ?_
  exact xi_retS (fr := (fun r => r)) (fw := (fun r => wX E g a)) hx hb hr hlocks hf hP hS dX4_digit_15
def t_X2_allowOnly (j : Nat) (g : xG) (a : xA) (v1 : Int32) (v2 : Int32) : xA := (upA a (29 + 7 * j) (putF 6 (a (29 + 7 * j)) v1 ((atF 6 (a (29 + 7 * j)) v1) &&& ((1 : Int32) <<< (v2 &&& 31)))))
set_option maxRecDepth 100000 in
set_option maxHeartbeats 40000000 in
theorem c_X2_allowOnly (l : Launch) (E : xE) (j : Nat) (hj : j < 2) (g : xG) (a : xA) (v1 : Int32) (v2 : Int32) : xM l E yX2_allowOnly cX2_allowOnly 3 none 1 22 [.ref (E.2.1 (24 + 7 * j)), .int v1, .int v2] (wX E g a) (xQv E (wX E g (t_X2_allowOnly j g a v1 v2))) := by
  obtain ⟨res, hres⟩ : ∃ z, z = t_X2_allowOnly j g a v1 v2 := ⟨_, rfl⟩
  rw [← hres]
  have hf : _ = res := hres.symm
  unfold t_X2_allowOnly at hf
  refine xM_of (by decide) (Nat.le_of_ble_eq_true rfl) ?_
  intro p e s m below meth c A hx hb hr hml hts hown hlocks hA hD hP hK hN hS ls hl
  have hw : ∀ w ∈ BW, w.before _ s = true := fun w h => hts w (List.mem_cons_of_mem _ h)
  have C0 : xCtx E p m c cX2_allowOnly 3 s _ RX2 A yX2_allowOnly cX2_allowOnly 3 none := ⟨hx, hb, hml, hown, hts, hA, hK, hN⟩
  have hl : lv_has ls 3 [(0, .ref (E.2.1 (24 + 7 * j))), (1, .int v1), (2, .int v2)] := hl
  refine lv_aload_n hx hb dX2_allowOnly_0 rfl (lv_at hl 0 rfl) ?_
  refine va_get (C := RX2) (T := TX2) (N := 10) hx hb hw bfX20 hown hK hP (24 + 7 * j) (gx_inst E g a j hj) rfl 8 (by decide) (hw _ bw74) (fun _ h9 => h9) rfl dX2_allowOnly_1 ?_
  refine lv_iload_n hx hb dX2_allowOnly_4 rfl (lv_at hl 1 rfl) ?_
  refine lv_aload_n hx hb dX2_allowOnly_5 rfl (lv_at hl 0 rfl) ?_
  refine va_get (C := RX2) (T := TX2) (N := 10) hx hb hw bfX20 hown hK hP (24 + 7 * j) (gx_inst E g a j hj) rfl 8 (by decide) (hw _ bw74) (fun _ h9 => h9) rfl dX2_allowOnly_6 ?_
  refine lv_iload_n hx hb dX2_allowOnly_9 rfl (lv_at hl 1 rfl) ?_
  refine xci (xRunN (rest := [.int v1, .ref (E.2.1 (29 + 7 * j))]) (As := [.ref (E.2.1 (29 + 7 * j)), .int v1]) (k := 2) C0 (c_at l E (wX E g a) (29 + 7 * j) v1 (gx_ia29 E g a j hj) (Nat.le_of_ble_eq_true rfl)) bw9 nw8 bw13 bw12 hd_X11_at ⟨Nat.le_of_ble_eq_true rfl, Nat.le_of_ble_eq_true rfl⟩ hP (wX_D hD) hS rfl hl.1 rfl (Nat.le_of_ble_eq_true rfl) dX2_allowOnly_10 ⟨Nat.zero_le _, Nat.zero_le _⟩) hS (fun H locs hP hS => ?_)
  refine lv_iconst (v := 1) hx hb dX2_allowOnly_13 (by decide) ?_
  refine lv_iload_n hx hb dX2_allowOnly_14 rfl (lv_at hl 2 rfl) ?_
  refine lv_ishl hx hb dX2_allowOnly_15 ?_
  refine lv_iand hx hb dX2_allowOnly_16 ?_
  refine xcv (xRunN (rest := []) (As := [.ref (E.2.1 (29 + 7 * j)), .int v1, .int ((atF 6 (a (29 + 7 * j)) v1) &&& ((1 : Int32) <<< (v2 &&& 31)))]) (k := 3) C0 (c_put l E (wX E g a) (29 + 7 * j) v1 ((atF 6 (a (29 + 7 * j)) v1) &&& ((1 : Int32) <<< (v2 &&& 31))) (gx_ia29 E g a j hj) (Nat.le_of_ble_eq_true rfl) (sx_ia29 E g a j hj (putF 6 (a (29 + 7 * j)) v1 ((atF 6 (a (29 + 7 * j)) v1) &&& ((1 : Int32) <<< (v2 &&& 31)))))) bw14 nw7 bw13 bw23 hd_X11_put ⟨Nat.le_of_ble_eq_true rfl, Nat.le_of_ble_eq_true rfl⟩ hP (wX_D hD) hS rfl hl.1 rfl (Nat.le_of_ble_eq_true rfl) dX2_allowOnly_17 ⟨Nat.zero_le _, Nat.zero_le _⟩) hS (fun H locs hP hS => ?_)
  exact xv_retS (fw := (fun r => wX E g r)) hx hb hr hlocks hf hP hS dX2_allowOnly_20
def t_X10_tuplesOf (g : xG) (a : xA) (v1 : Int32) : Int32 := (atF 9 (a 6) v1)
set_option maxRecDepth 100000 in
set_option maxHeartbeats 40000000 in
theorem c_X10_tuplesOf (l : Launch) (E : xE) (g : xG) (a : xA) (v1 : Int32) : xM l E yX10_tuplesOf cX10_tuplesOf 2 (some .int) 1 21 [.ref (E.2.1 4), .int v1] (wX E g a) (xQi E (t_X10_tuplesOf g a v1) (wX E g a)) := by
  obtain ⟨res, hres⟩ : ∃ z, z = t_X10_tuplesOf g a v1 := ⟨_, rfl⟩
  rw [← hres]
  have hf : _ = res := hres.symm
  unfold t_X10_tuplesOf at hf
  refine xM_of (by decide) (Nat.le_of_ble_eq_true rfl) ?_
  intro p e s m below meth c A hx hb hr hml hts hown hlocks hA hD hP hK hN hS ls hl
  have hw : ∀ w ∈ BW, w.before _ s = true := fun w h => hts w (List.mem_cons_of_mem _ h)
  have C0 : xCtx E p m c cX10_tuplesOf 2 s _ RX10 A yX10_tuplesOf cX10_tuplesOf 2 (some .int) := ⟨hx, hb, hml, hown, hts, hA, hK, hN⟩
  have hl : lv_has ls 2 [(0, .ref (E.2.1 4)), (1, .int v1)] := hl
  refine lv_aload_n hx hb dX10_tuplesOf_0 rfl (lv_at hl 0 rfl) ?_
  refine va_get (C := RX10) (T := TX10) (N := 4) hx hb hw bfX100 hown hK hP 4 (gx_4 E g a) rfl 3 (by decide) (hw _ bw177) (fun _ h9 => h9) rfl dX10_tuplesOf_1 ?_
  refine lv_iload_n hx hb dX10_tuplesOf_4 rfl (lv_at hl 1 rfl) ?_
  refine xci (xRunN (rest := []) (As := [.ref (E.2.1 6), .int v1]) (k := 2) C0 (c_at l E (wX E g a) 6 v1 (gx_6 E g a) (Nat.le_of_ble_eq_true rfl)) bw9 nw24 bw13 bw12 hd_X11_at ⟨Nat.le_of_ble_eq_true rfl, Nat.le_of_ble_eq_true rfl⟩ hP (wX_D hD) hS rfl hl.1 rfl (Nat.le_of_ble_eq_true rfl) dX10_tuplesOf_5 ⟨Nat.zero_le _, Nat.zero_le _⟩) hS (fun H locs hP hS => ?_)
  exact xi_retS (fr := (fun r => r)) (fw := (fun r => wX E g a)) hx hb hr hlocks hf hP hS dX10_tuplesOf_8
def f_X2_holds_10 (j : Nat) (g : xG) (a : xA) : Nat → Int32 → Int32 → Int32 → Option (Int32)
  | 0, _, _, _ => none
  | n + 1, x1, x2, x3 => (if x3 < 0 then ck (boB (isInF x2 (t_X10_tuplesOf g a (atF 16 (a (25 + 7 * j)) x1)))) (some (isInF x2 (t_X10_tuplesOf g a (atF 16 (a (25 + 7 * j)) x1)))) else f_X2_holds_10 j g a n x1 ((x2 * (g 0)) + (atF 6 (a (30 + 7 * j)) (t_X2_variableOn j g a x1 x3))) (x3 + (-1)))
theorem e_X2_holds_10 (j : Nat) (g : xG) (a : xA) (n : Nat) (x1 : Int32) (x2 : Int32) (x3 : Int32) : f_X2_holds_10 j g a (n + 1) x1 x2 x3 = (if x3 < 0 then ck (boB (isInF x2 (t_X10_tuplesOf g a (atF 16 (a (25 + 7 * j)) x1)))) (some (isInF x2 (t_X10_tuplesOf g a (atF 16 (a (25 + 7 * j)) x1)))) else f_X2_holds_10 j g a n x1 ((x2 * (g 0)) + (atF 6 (a (30 + 7 * j)) (t_X2_variableOn j g a x1 x3))) (x3 + (-1))) := rfl
def f_X2_holds (j : Nat) (g : xG) (a : xA) (v1 : Int32) : Option (Int32) := f_X2_holds_10 j g a fu v1 0 ((t_X2_placesOf j g a v1) - 1)
set_option maxRecDepth 100000 in
set_option maxHeartbeats 40000000 in
theorem c_X2_holds (l : Launch) (E : xE) (j : Nat) (hj : j < 2) (g : xG) (a : xA) (v1 : Int32) {res : Int32} (hf : f_X2_holds j g a v1 = some res) : xM l E yX2_holds cX2_holds 4 (some .boolean) 2 43 [.ref (E.2.1 (24 + 7 * j)), .int v1] (wX E g a) (xQi E res (wX E g a)) := by
  unfold f_X2_holds at hf
  refine xM_of (by decide) (Nat.le_of_ble_eq_true rfl) ?_
  intro p e s m below meth c A hx hb hr hml hts hown hlocks hA hD hP hK hN hS ls hl
  have hw : ∀ w ∈ BW, w.before _ s = true := fun w h => hts w (List.mem_cons_of_mem _ h)
  have C0 : xCtx E p m c cX2_holds 4 s _ RX2 A yX2_holds cX2_holds 4 (some .boolean) := ⟨hx, hb, hml, hown, hts, hA, hK, hN⟩
  have hl : lv_has ls 4 [(0, .ref (E.2.1 (24 + 7 * j))), (1, .int v1)] := hl
  have B10 : ∀ (n : Nat) (x1 : Int32) (x2 : Int32) (x3 : Int32) (H : Heap) (locs : List Loc) (ls : Array Slot), va_P E.1 vwCl (wX E g a) H → va_S A s.heap H locs → lv_has ls 4 [(0, .ref (E.2.1 (24 + 7 * j))), (1, .int x1), (2, .int x2), (3, .int x3)] → f_X2_holds_10 j g a n x1 x2 x3 = some res → W p l e ({ frames := 2, cells := 0, slots := 0, locals := 43 }) s m ([.ref (E.2.1 (24 + 7 * j)), .int v1] : List Value).toArray below meth c H locs 0 0 (MQ below ((xQi E res (wX E g a)) A) ([.ref (E.2.1 (24 + 7 * j)), .int v1] : List Value).toArray s 0 0 A) (F0 m 10 ls []) := by
    intro n
    induction n with
    | zero => intro x1 x2 x3 H locs ls hP hS hl hf; exact absurd (show (none : Option (Int32)) = some res from hf) (by intro h; cases h)
    | succ n ih =>
      intro x1 x2 x3 H locs ls hP hS hl hf
      replace hf := (e_X2_holds_10 j g a n x1 x2 x3).symm.trans hf
      refine lv_iload_n hx hb dX2_holds_10 rfl (lv_at hl 3 rfl) ?_
      refine lv_if_lt (tgt := 44) hx hb dX2_holds_11 (by decide) (fun c1 => ?_) (fun c1 => ?_)
      · replace hf := (if_pos c1).symm.trans hf
        refine lv_iload_n hx hb dX2_holds_44 rfl (lv_at hl 2 rfl) ?_
        refine lv_aload_n hx hb dX2_holds_45 rfl (lv_at hl 0 rfl) ?_
        refine va_get (C := RX2) (T := TX2) (N := 10) hx hb hw bfX20 hown hK hP (24 + 7 * j) (gx_inst E g a j hj) rfl 2 (by decide) (hw _ bw77) (fun _ h9 => h9) rfl dX2_holds_46 ?_
        refine lv_aload_n hx hb dX2_holds_49 rfl (lv_at hl 0 rfl) ?_
        refine va_get (C := RX2) (T := TX2) (N := 10) hx hb hw bfX20 hown hK hP (24 + 7 * j) (gx_inst E g a j hj) rfl 4 (by decide) (hw _ bw70) (fun _ h9 => h9) rfl dX2_holds_50 ?_
        refine lv_iload_n hx hb dX2_holds_53 rfl (lv_at hl 1 rfl) ?_
        refine xci (xRunN (rest := [.ref (E.2.1 4), .int x2]) (As := [.ref (E.2.1 (25 + 7 * j)), .int x1]) (k := 2) C0 (c_at l E (wX E g a) (25 + 7 * j) x1 (gx_ia25 E g a j hj) (Nat.le_of_ble_eq_true rfl)) bw9 nw8 bw13 bw12 hd_X11_at ⟨Nat.le_of_ble_eq_true rfl, Nat.le_of_ble_eq_true rfl⟩ hP (wX_D hD) hS rfl hl.1 rfl (Nat.le_of_ble_eq_true rfl) dX2_holds_54 ⟨Nat.zero_le _, Nat.zero_le _⟩) hS (fun H locs hP hS => ?_)
        refine xci (xRunV (rest := [.int x2]) (As := [.int (atF 16 (a (25 + 7 * j)) x1)]) (C := RX10) (k := 1) C0 (c_X10_tuplesOf l E g a (atF 16 (a (25 + 7 * j)) x1)) bw176 bw179 bw115 bw180 bw181 hd_X10_tuplesOf ⟨Nat.le_of_ble_eq_true rfl, Nat.le_of_ble_eq_true rfl⟩ hP (wX_D hD) hS (va_recv hK hP (ci := 10) rfl (gx_4 E g a)) rfl hl.1 rfl (Nat.le_of_ble_eq_true rfl) dX2_holds_57 ⟨Nat.zero_le _, Nat.zero_le _⟩) hS (fun H locs hP hS => ?_)
        refine xci (xRunN (rest := []) (As := [.int x2, .int (t_X10_tuplesOf g a (atF 16 (a (25 + 7 * j)) x1))]) (k := 2) C0 (c_isIn l E (wX E g a) x2 (t_X10_tuplesOf g a (atF 16 (a (25 + 7 * j)) x1))) bw8 nw9 bw13 bw18 hd_X11_isIn ⟨Nat.le_of_ble_eq_true rfl, Nat.le_of_ble_eq_true rfl⟩ hP (wX_D hD) hS rfl hl.1 rfl (Nat.le_of_ble_eq_true rfl) dX2_holds_60 ⟨Nat.zero_le _, Nat.zero_le _⟩) hS (fun H locs hP hS => ?_)
        obtain ⟨k2, hf⟩ := ck_some hf
        exact xz_retS (fr := (fun r => r)) (fw := (fun r => wX E g a)) hx hb hr hlocks (Option.some.inj hf) (boB_bo k2) hP hS dX2_holds_63
      · replace hf := (if_neg c1).symm.trans hf
        refine lv_iload_n hx hb dX2_holds_14 rfl (lv_at hl 2 rfl) ?_
        refine lv_aload_n hx hb dX2_holds_15 rfl (lv_at hl 0 rfl) ?_
        refine va_get (C := RX2) (T := TX2) (N := 10) hx hb hw bfX20 hown hK hP (24 + 7 * j) (gx_inst E g a j hj) rfl 1 (by decide) (hw _ bw76) (fun _ h9 => h9) rfl dX2_holds_16 ?_
        refine va_get (C := RX4) (T := TX4) (N := 3) hx hb hw bfX40 hown hK hP 1 (gx_1 E g a) rfl 0 (by decide) (hw _ bw178) (fun _ h9 => h9) rfl dX2_holds_19 ?_
        refine lv_imul hx hb dX2_holds_22 ?_
        refine lv_aload_n hx hb dX2_holds_23 rfl (lv_at hl 0 rfl) ?_
        refine va_get (C := RX2) (T := TX2) (N := 10) hx hb hw bfX20 hown hK hP (24 + 7 * j) (gx_inst E g a j hj) rfl 9 (by decide) (hw _ bw75) (fun _ h9 => h9) rfl dX2_holds_24 ?_
        refine lv_aload_n hx hb dX2_holds_27 rfl (lv_at hl 0 rfl) ?_
        refine lv_iload_n hx hb dX2_holds_28 rfl (lv_at hl 1 rfl) ?_
        refine lv_iload_n hx hb dX2_holds_29 rfl (lv_at hl 3 rfl) ?_
        refine xci (xRunV (rest := [.ref (E.2.1 (30 + 7 * j)), .int (x2 * (g 0))]) (As := [.int x1, .int x3]) (C := RX2) (k := 2) C0 (c_X2_variableOn l E j hj g a x1 x3) bw120 bw129 bw86 bw130 bw131 hd_X2_variableOn ⟨Nat.le_of_ble_eq_true rfl, Nat.le_of_ble_eq_true rfl⟩ hP (wX_D hD) hS (va_recv hK hP (ci := 2) rfl (gx_inst E g a j hj)) rfl hl.1 rfl (Nat.le_of_ble_eq_true rfl) dX2_holds_30 ⟨Nat.zero_le _, Nat.zero_le _⟩) hS (fun H locs hP hS => ?_)
        refine xci (xRunN (rest := [.int (x2 * (g 0))]) (As := [.ref (E.2.1 (30 + 7 * j)), .int (t_X2_variableOn j g a x1 x3)]) (k := 2) C0 (c_at l E (wX E g a) (30 + 7 * j) (t_X2_variableOn j g a x1 x3) (gx_ia30 E g a j hj) (Nat.le_of_ble_eq_true rfl)) bw9 nw8 bw13 bw12 hd_X11_at ⟨Nat.le_of_ble_eq_true rfl, Nat.le_of_ble_eq_true rfl⟩ hP (wX_D hD) hS rfl hl.1 rfl (Nat.le_of_ble_eq_true rfl) dX2_holds_33 ⟨Nat.zero_le _, Nat.zero_le _⟩) hS (fun H locs hP hS => ?_)
        refine lv_iadd hx hb dX2_holds_36 ?_
        refine lv_istore_n (lv' := [(2, .int ((x2 * (g 0)) + (atF 6 (a (30 + 7 * j)) (t_X2_variableOn j g a x1 x3)))), (0, .ref (E.2.1 (24 + 7 * j))), (1, .int x1), (3, .int x3)]) hx hb dX2_holds_37 rfl hl (by decide) rfl (fun ls hl => ?_)
        refine lv_iinc (v := (x3 + (-1))) (lv' := [(3, .int (x3 + (-1))), (2, .int ((x2 * (g 0)) + (atF 6 (a (30 + 7 * j)) (t_X2_variableOn j g a x1 x3)))), (0, .ref (E.2.1 (24 + 7 * j))), (1, .int x1)]) hx hb dX2_holds_38 hl (k := 3) rfl rfl (by decide) rfl (fun ls hl => ?_)
        refine lv_goto (tgt := 10) hx hb dX2_holds_41 (by decide) ?_
        exact ih x1 ((x2 * (g 0)) + (atF 6 (a (30 + 7 * j)) (t_X2_variableOn j g a x1 x3))) (x3 + (-1)) _ _ _ hP hS (lv_sub hl [2, 3, 1, 0] rfl) hf
  refine lv_iconst (v := 0) hx hb dX2_holds_0 (by decide) ?_
  refine lv_istore_n (lv' := [(2, .int 0), (0, .ref (E.2.1 (24 + 7 * j))), (1, .int v1)]) hx hb dX2_holds_1 rfl hl (by decide) rfl (fun ls hl => ?_)
  refine lv_aload_n hx hb dX2_holds_2 rfl (lv_at hl 1 rfl) ?_
  refine lv_iload_n hx hb dX2_holds_3 rfl (lv_at hl 2 rfl) ?_
  refine xci (xRunV (rest := []) (As := [.int v1]) (C := RX2) (k := 1) C0 (c_X2_placesOf l E j hj g a v1) bw119 bw126 bw86 bw127 bw128 hd_X2_placesOf ⟨Nat.le_of_ble_eq_true rfl, Nat.le_of_ble_eq_true rfl⟩ hP (wX_D hD) hS (va_recv hK hP (ci := 2) rfl (gx_inst E g a j hj)) rfl hl.1 rfl (Nat.le_of_ble_eq_true rfl) dX2_holds_4 ⟨Nat.zero_le _, Nat.zero_le _⟩) hS (fun H locs hP hS => ?_)
  refine lv_iconst (v := 1) hx hb dX2_holds_7 (by decide) ?_
  refine lv_isub hx hb dX2_holds_8 ?_
  refine lv_istore_n (lv' := [(3, .int ((t_X2_placesOf j g a v1) - 1)), (2, .int 0), (0, .ref (E.2.1 (24 + 7 * j))), (1, .int v1)]) hx hb dX2_holds_9 rfl hl (by decide) rfl (fun ls hl => ?_)
  exact B10 fu v1 0 ((t_X2_placesOf j g a v1) - 1) _ _ _ hP hS (lv_sub hl [2, 3, 1, 0] rfl) hf
def f_X2_holdsFrom_2 (j : Nat) (g : xG) (a : xA) : Nat → Int32 → Int32 → Option (Int32)
  | 0, _, _ => none
  | n + 1, x1, x2 => (if (g (11 + 2 * j)) ≤ x2 then some 1 else (if (atF 16 (a (28 + 7 * j)) x2) = x1 then Option.bind (f_X2_holds j g a x2) (fun u3 => (if u3 = 0 then some 0 else f_X2_holdsFrom_2 j g a n x1 (x2 + 1))) else f_X2_holdsFrom_2 j g a n x1 (x2 + 1)))
theorem e_X2_holdsFrom_2 (j : Nat) (g : xG) (a : xA) (n : Nat) (x1 : Int32) (x2 : Int32) : f_X2_holdsFrom_2 j g a (n + 1) x1 x2 = (if (g (11 + 2 * j)) ≤ x2 then some 1 else (if (atF 16 (a (28 + 7 * j)) x2) = x1 then Option.bind (f_X2_holds j g a x2) (fun u3 => (if u3 = 0 then some 0 else f_X2_holdsFrom_2 j g a n x1 (x2 + 1))) else f_X2_holdsFrom_2 j g a n x1 (x2 + 1))) := rfl
def f_X2_holdsFrom (j : Nat) (g : xG) (a : xA) (v1 : Int32) : Option (Int32) := f_X2_holdsFrom_2 j g a fu v1 0
set_option maxRecDepth 100000 in
set_option maxHeartbeats 40000000 in
theorem c_X2_holdsFrom (l : Launch) (E : xE) (j : Nat) (hj : j < 2) (g : xG) (a : xA) (v1 : Int32) {res : Int32} (hf : f_X2_holdsFrom j g a v1 = some res) : xM l E yX2_holdsFrom cX2_holdsFrom 3 (some .boolean) 3 66 [.ref (E.2.1 (24 + 7 * j)), .int v1] (wX E g a) (xQi E res (wX E g a)) := by
  unfold f_X2_holdsFrom at hf
  refine xM_of (by decide) (Nat.le_of_ble_eq_true rfl) ?_
  intro p e s m below meth c A hx hb hr hml hts hown hlocks hA hD hP hK hN hS ls hl
  have hw : ∀ w ∈ BW, w.before _ s = true := fun w h => hts w (List.mem_cons_of_mem _ h)
  have C0 : xCtx E p m c cX2_holdsFrom 3 s _ RX2 A yX2_holdsFrom cX2_holdsFrom 3 (some .boolean) := ⟨hx, hb, hml, hown, hts, hA, hK, hN⟩
  have hl : lv_has ls 3 [(0, .ref (E.2.1 (24 + 7 * j))), (1, .int v1)] := hl
  have B2 : ∀ (n : Nat) (x1 : Int32) (x2 : Int32) (H : Heap) (locs : List Loc) (ls : Array Slot), va_P E.1 vwCl (wX E g a) H → va_S A s.heap H locs → lv_has ls 3 [(0, .ref (E.2.1 (24 + 7 * j))), (1, .int x1), (2, .int x2)] → f_X2_holdsFrom_2 j g a n x1 x2 = some res → W p l e ({ frames := 3, cells := 0, slots := 0, locals := 66 }) s m ([.ref (E.2.1 (24 + 7 * j)), .int v1] : List Value).toArray below meth c H locs 0 0 (MQ below ((xQi E res (wX E g a)) A) ([.ref (E.2.1 (24 + 7 * j)), .int v1] : List Value).toArray s 0 0 A) (F0 m 2 ls []) := by
    intro n
    induction n with
    | zero => intro x1 x2 H locs ls hP hS hl hf; exact absurd (show (none : Option (Int32)) = some res from hf) (by intro h; cases h)
    | succ n ih =>
      intro x1 x2 H locs ls hP hS hl hf
      replace hf := (e_X2_holdsFrom_2 j g a n x1 x2).symm.trans hf
      refine lv_iload_n hx hb dX2_holdsFrom_2 rfl (lv_at hl 2 rfl) ?_
      refine lv_aload_n hx hb dX2_holdsFrom_3 rfl (lv_at hl 0 rfl) ?_
      refine va_get (C := RX2) (T := TX2) (N := 10) hx hb hw bfX20 hown hK hP (24 + 7 * j) (gx_inst E g a j hj) rfl 0 (by decide) (hw _ bw92) (fun _ h9 => h9) rfl dX2_holdsFrom_4 ?_
      refine lv_icmp_ge (tgt := 38) hx hb dX2_holdsFrom_7 (by decide) (fun c1 => ?_) (fun c1 => ?_)
      · replace hf := (if_pos c1).symm.trans hf
        refine lv_iconst (v := 1) hx hb dX2_holdsFrom_38 (by decide) ?_
        exact xz_retS (fr := (fun r => r)) (fw := (fun r => wX E g a)) hx hb hr hlocks (Option.some.inj hf) nz1 hP hS dX2_holdsFrom_39
      · replace hf := (if_neg c1).symm.trans hf
        refine lv_aload_n hx hb dX2_holdsFrom_10 rfl (lv_at hl 0 rfl) ?_
        refine va_get (C := RX2) (T := TX2) (N := 10) hx hb hw bfX20 hown hK hP (24 + 7 * j) (gx_inst E g a j hj) rfl 7 (by decide) (hw _ bw73) (fun _ h9 => h9) rfl dX2_holdsFrom_11 ?_
        refine lv_iload_n hx hb dX2_holdsFrom_14 rfl (lv_at hl 2 rfl) ?_
        refine xci (xRunN (rest := []) (As := [.ref (E.2.1 (28 + 7 * j)), .int x2]) (k := 2) C0 (c_at l E (wX E g a) (28 + 7 * j) x2 (gx_ia28 E g a j hj) (Nat.le_of_ble_eq_true rfl)) bw9 nw8 bw13 bw12 hd_X11_at ⟨Nat.le_of_ble_eq_true rfl, Nat.le_of_ble_eq_true rfl⟩ hP (wX_D hD) hS rfl hl.1 rfl (Nat.le_of_ble_eq_true rfl) dX2_holdsFrom_15 ⟨Nat.zero_le _, Nat.zero_le _⟩) hS (fun H locs hP hS => ?_)
        refine lv_iload_n hx hb dX2_holdsFrom_18 rfl (lv_at hl 1 rfl) ?_
        refine lv_icmp_ne (tgt := 32) hx hb dX2_holdsFrom_19 (by decide) (fun c2 => ?_) (fun c2 => ?_)
        · replace hf := (if_neg c2).symm.trans hf
          refine lv_iinc (v := (x2 + 1)) (lv' := [(2, .int (x2 + 1)), (0, .ref (E.2.1 (24 + 7 * j))), (1, .int x1)]) hx hb dX2_holdsFrom_32 hl (k := 2) rfl rfl (by decide) rfl (fun ls hl => ?_)
          refine lv_goto (tgt := 2) hx hb dX2_holdsFrom_35 (by decide) ?_
          exact ih x1 (x2 + 1) _ _ _ hP hS (lv_sub hl [1, 2, 0] rfl) hf
        · replace hf := (if_pos c2).symm.trans hf
          refine lv_aload_n hx hb dX2_holdsFrom_22 rfl (lv_at hl 0 rfl) ?_
          refine lv_iload_n hx hb dX2_holdsFrom_23 rfl (lv_at hl 2 rfl) ?_
          obtain ⟨u3, e4, hf⟩ := bd_some hf
          refine xci (xRunV (rest := []) (As := [.int x2]) (C := RX2) (k := 1) C0 (c_X2_holds l E j hj g a x2 e4) bw182 bw183 bw86 bw184 bw185 hd_X2_holds ⟨Nat.le_of_ble_eq_true rfl, Nat.le_of_ble_eq_true rfl⟩ hP (wX_D hD) hS (va_recv hK hP (ci := 2) rfl (gx_inst E g a j hj)) rfl hl.1 rfl (Nat.le_of_ble_eq_true rfl) dX2_holdsFrom_24 ⟨Nat.zero_le _, Nat.zero_le _⟩) hS (fun H locs hP hS => ?_)
          refine lv_if_ne (tgt := 32) hx hb dX2_holdsFrom_27 (by decide) (fun c5 => ?_) (fun c5 => ?_)
          · replace hf := (if_neg c5).symm.trans hf
            refine lv_iinc (v := (x2 + 1)) (lv' := [(2, .int (x2 + 1)), (0, .ref (E.2.1 (24 + 7 * j))), (1, .int x1)]) hx hb dX2_holdsFrom_32 hl (k := 2) rfl rfl (by decide) rfl (fun ls hl => ?_)
            refine lv_goto (tgt := 2) hx hb dX2_holdsFrom_35 (by decide) ?_
            exact ih x1 (x2 + 1) _ _ _ hP hS (lv_sub hl [1, 2, 0] rfl) hf
          · replace hf := (if_pos c5).symm.trans hf
            refine lv_iconst (v := 0) hx hb dX2_holdsFrom_30 (by decide) ?_
            exact xz_retS (fr := (fun r => r)) (fw := (fun r => wX E g a)) hx hb hr hlocks (Option.some.inj hf) nz0 hP hS dX2_holdsFrom_31
  refine lv_iconst (v := 0) hx hb dX2_holdsFrom_0 (by decide) ?_
  refine lv_istore_n (lv' := [(2, .int 0), (0, .ref (E.2.1 (24 + 7 * j))), (1, .int v1)]) hx hb dX2_holdsFrom_1 rfl hl (by decide) rfl (fun ls hl => ?_)
  exact B2 fu v1 0 _ _ _ hP hS (lv_sub hl [1, 2, 0] rfl) hf
def f_X2_completed_11 (self : Nat → xG → xA → Int32 → Int32 → Option (Int32 × xA)) (j : Nat) (g : xG) : Nat → xA → Int32 → Int32 → Int32 → Int32 → Option (Int32 × xA)
  | 0, _, _, _, _, _ => none
  | n + 1, a, x1, x2, x3, x4 => (if (g 0) ≤ x4 then some (x3, a) else (if x2 ≤ x3 then some (x3, a) else (if (isInF x4 (atF 6 (a (29 + 7 * j)) x1)) = 0 then f_X2_completed_11 self j g n a x1 x2 x3 (x4 + 1) else Option.bind (f_X2_holdsFrom j g (upA a (30 + 7 * j) (putF 6 (a (30 + 7 * j)) x1 x4)) x1) (fun u5 => (if u5 = 0 then f_X2_completed_11 self j g n (upA a (30 + 7 * j) (putF 6 (a (30 + 7 * j)) x1 x4)) x1 x2 x3 (x4 + 1) else Option.bind (self j g (upA a (30 + 7 * j) (putF 6 (a (30 + 7 * j)) x1 x4)) (x1 - 1) (x2 - x3)) (fun u8 => f_X2_completed_11 self j g n u8.2 x1 x2 (x3 + u8.1) (x4 + 1)))))))
theorem e_X2_completed_11 (self : Nat → xG → xA → Int32 → Int32 → Option (Int32 × xA)) (j : Nat) (g : xG) (n : Nat) (a : xA) (x1 : Int32) (x2 : Int32) (x3 : Int32) (x4 : Int32) : f_X2_completed_11 self j g (n + 1) a x1 x2 x3 x4 = (if (g 0) ≤ x4 then some (x3, a) else (if x2 ≤ x3 then some (x3, a) else (if (isInF x4 (atF 6 (a (29 + 7 * j)) x1)) = 0 then f_X2_completed_11 self j g n a x1 x2 x3 (x4 + 1) else Option.bind (f_X2_holdsFrom j g (upA a (30 + 7 * j) (putF 6 (a (30 + 7 * j)) x1 x4)) x1) (fun u5 => (if u5 = 0 then f_X2_completed_11 self j g n (upA a (30 + 7 * j) (putF 6 (a (30 + 7 * j)) x1 x4)) x1 x2 x3 (x4 + 1) else Option.bind (self j g (upA a (30 + 7 * j) (putF 6 (a (30 + 7 * j)) x1 x4)) (x1 - 1) (x2 - x3)) (fun u8 => f_X2_completed_11 self j g n u8.2 x1 x2 (x3 + u8.1) (x4 + 1))))))) := rfl
def b_X2_completed (self : Nat → xG → xA → Int32 → Int32 → Option (Int32 × xA)) (j : Nat) (g : xG) (a : xA) (v1 : Int32) (v2 : Int32) : Option (Int32 × xA) := (if 0 ≤ v1 then f_X2_completed_11 self j g fu a v1 v2 0 0 else some (1, a))
def f_X2_completed : Nat → Nat → xG → xA → Int32 → Int32 → Option (Int32 × xA)
  | 0, _, _, _, _, _ => none
  | n + 1, j, g, a, v1, v2 => b_X2_completed (f_X2_completed n) j g a v1 v2
set_option maxRecDepth 100000 in
set_option maxHeartbeats 40000000 in
theorem cb_X2_completed (l : Launch) (E : xE) (self : Nat → xG → xA → Int32 → Int32 → Option (Int32 × xA)) (F0_ L0 F L : Nat) (hself : ∀ (j : Nat) (hj : j < 2) (g : xG) (a : xA) (v1 : Int32) (v2 : Int32) (res : Int32 × xA), self j g a v1 v2 = some res → xM l E yX2_completed cX2_completed 5 (some .int) F0_ L0 [.ref (E.2.1 (24 + 7 * j)), .int v1, .int v2] (wX E g a) (xQi E res.1 (wX E g res.2))) (hself_room : F0_ + 1 ≤ F ∧ 8 + (5 + 11) + L0 ≤ L) (hF : 4 ≤ F) (hL : 88 ≤ L) (j : Nat) (hj : j < 2) (g : xG) (a : xA) (v1 : Int32) (v2 : Int32) {res : Int32 × xA} (hf : b_X2_completed self j g a v1 v2 = some res) : xM l E yX2_completed cX2_completed 5 (some .int) F L [.ref (E.2.1 (24 + 7 * j)), .int v1, .int v2] (wX E g a) (xQi E res.1 (wX E g res.2)) := by
  unfold b_X2_completed at hf
  refine xM_of (by decide) (Nat.le_of_ble_eq_true rfl) ?_
  intro p e s m below meth c A hx hb hr hml hts hown hlocks hA hD hP hK hN hS ls hl
  have hw : ∀ w ∈ BW, w.before _ s = true := fun w h => hts w (List.mem_cons_of_mem _ h)
  have C0 : xCtx E p m c cX2_completed 5 s _ RX2 A yX2_completed cX2_completed 5 (some .int) := ⟨hx, hb, hml, hown, hts, hA, hK, hN⟩
  have hl : lv_has ls 5 [(0, .ref (E.2.1 (24 + 7 * j))), (1, .int v1), (2, .int v2)] := hl
  have B11 : ∀ (n : Nat) (a : xA) (x1 : Int32) (x2 : Int32) (x3 : Int32) (x4 : Int32) (H : Heap) (locs : List Loc) (ls : Array Slot), va_P E.1 vwCl (wX E g a) H → va_S A s.heap H locs → lv_has ls 5 [(0, .ref (E.2.1 (24 + 7 * j))), (1, .int x1), (2, .int x2), (3, .int x3), (4, .int x4)] → f_X2_completed_11 self j g n a x1 x2 x3 x4 = some res → W p l e ({ frames := F, cells := 0, slots := 0, locals := L }) s m ([.ref (E.2.1 (24 + 7 * j)), .int v1, .int v2] : List Value).toArray below meth c H locs 0 0 (MQ below ((xQi E res.1 (wX E g res.2)) A) ([.ref (E.2.1 (24 + 7 * j)), .int v1, .int v2] : List Value).toArray s 0 0 A) (F0 m 11 ls []) := by
    intro n
    induction n with
    | zero => intro a x1 x2 x3 x4 H locs ls hP hS hl hf; exact absurd (show (none : Option (Int32 × xA)) = some res from hf) (by intro h; cases h)
    | succ n ih =>
      intro a x1 x2 x3 x4 H locs ls hP hS hl hf
      replace hf := (e_X2_completed_11 self j g n a x1 x2 x3 x4).symm.trans hf
      refine lv_iload hx hb dX2_completed_11 (lv_at hl 4 rfl) ?_
      refine lv_aload_n hx hb dX2_completed_13 rfl (lv_at hl 0 rfl) ?_
      refine va_get (C := RX2) (T := TX2) (N := 10) hx hb hw bfX20 hown hK hP (24 + 7 * j) (gx_inst E g a j hj) rfl 1 (by decide) (hw _ bw76) (fun _ h9 => h9) rfl dX2_completed_14 ?_
      refine va_get (C := RX4) (T := TX4) (N := 3) hx hb hw bfX40 hown hK hP 1 (gx_1 E g a) rfl 0 (by decide) (hw _ bw178) (fun _ h9 => h9) rfl dX2_completed_17 ?_
      refine lv_icmp_ge (tgt := 81) hx hb dX2_completed_20 (by decide) (fun c2 => ?_) (fun c2 => ?_)
      · replace hf := (if_pos c2).symm.trans hf
        refine lv_iload_n hx hb dX2_completed_81 rfl (lv_at hl 3 rfl) ?_
        exact xi_retS (fr := (fun r => r.1)) (fw := (fun r => wX E g r.2)) hx hb hr hlocks (Option.some.inj hf) hP hS dX2_completed_82
      · replace hf := (if_neg c2).symm.trans hf
        refine lv_iload_n hx hb dX2_completed_23 rfl (lv_at hl 3 rfl) ?_
        refine lv_iload_n hx hb dX2_completed_24 rfl (lv_at hl 2 rfl) ?_
        refine lv_icmp_ge (tgt := 81) hx hb dX2_completed_25 (by decide) (fun c3 => ?_) (fun c3 => ?_)
        · replace hf := (if_pos c3).symm.trans hf
          refine lv_iload_n hx hb dX2_completed_81 rfl (lv_at hl 3 rfl) ?_
          exact xi_retS (fr := (fun r => r.1)) (fw := (fun r => wX E g r.2)) hx hb hr hlocks (Option.some.inj hf) hP hS dX2_completed_82
        · replace hf := (if_neg c3).symm.trans hf
          refine lv_iload hx hb dX2_completed_28 (lv_at hl 4 rfl) ?_
          refine lv_aload_n hx hb dX2_completed_30 rfl (lv_at hl 0 rfl) ?_
          refine va_get (C := RX2) (T := TX2) (N := 10) hx hb hw bfX20 hown hK hP (24 + 7 * j) (gx_inst E g a j hj) rfl 8 (by decide) (hw _ bw74) (fun _ h9 => h9) rfl dX2_completed_31 ?_
          refine lv_iload_n hx hb dX2_completed_34 rfl (lv_at hl 1 rfl) ?_
          refine xci (xRunN (rest := [.int x4]) (As := [.ref (E.2.1 (29 + 7 * j)), .int x1]) (k := 2) C0 (c_at l E (wX E g a) (29 + 7 * j) x1 (gx_ia29 E g a j hj) (Nat.le_of_ble_eq_true rfl)) bw9 nw8 bw13 bw12 hd_X11_at ⟨Nat.le_trans (by decide) hF, Nat.le_trans (by decide) hL⟩ hP (wX_D hD) hS rfl hl.1 rfl (Nat.le_of_ble_eq_true rfl) dX2_completed_35 ⟨Nat.zero_le _, Nat.zero_le _⟩) hS (fun H locs hP hS => ?_)
          refine xci (xRunN (rest := []) (As := [.int x4, .int (atF 6 (a (29 + 7 * j)) x1)]) (k := 2) C0 (c_isIn l E (wX E g a) x4 (atF 6 (a (29 + 7 * j)) x1)) bw8 nw9 bw13 bw18 hd_X11_isIn ⟨Nat.le_trans (by decide) hF, Nat.le_trans (by decide) hL⟩ hP (wX_D hD) hS rfl hl.1 rfl (Nat.le_of_ble_eq_true rfl) dX2_completed_38 ⟨Nat.zero_le _, Nat.zero_le _⟩) hS (fun H locs hP hS => ?_)
          refine lv_if_eq (tgt := 75) hx hb dX2_completed_41 (by decide) (fun c4 => ?_) (fun c4 => ?_)
          · replace hf := (if_pos c4).symm.trans hf
            refine lv_iinc (v := (x4 + 1)) (lv' := [(4, .int (x4 + 1)), (0, .ref (E.2.1 (24 + 7 * j))), (1, .int x1), (2, .int x2), (3, .int x3)]) hx hb dX2_completed_75 hl (k := 4) rfl rfl (by decide) rfl (fun ls hl => ?_)
            refine lv_goto (tgt := 11) hx hb dX2_completed_78 (by decide) ?_
            exact ih a x1 x2 x3 (x4 + 1) _ _ _ hP hS (lv_sub hl [1, 2, 3, 4, 0] rfl) hf
          · replace hf := (if_neg c4).symm.trans hf
            refine lv_aload_n hx hb dX2_completed_44 rfl (lv_at hl 0 rfl) ?_
            refine va_get (C := RX2) (T := TX2) (N := 10) hx hb hw bfX20 hown hK hP (24 + 7 * j) (gx_inst E g a j hj) rfl 9 (by decide) (hw _ bw75) (fun _ h9 => h9) rfl dX2_completed_45 ?_
            refine lv_iload_n hx hb dX2_completed_48 rfl (lv_at hl 1 rfl) ?_
            refine lv_iload hx hb dX2_completed_49 (lv_at hl 4 rfl) ?_
            refine xcv (xRunN (rest := []) (As := [.ref (E.2.1 (30 + 7 * j)), .int x1, .int x4]) (k := 3) C0 (c_put l E (wX E g a) (30 + 7 * j) x1 x4 (gx_ia30 E g a j hj) (Nat.le_of_ble_eq_true rfl) (sx_ia30 E g a j hj (putF 6 (a (30 + 7 * j)) x1 x4))) bw14 nw7 bw13 bw23 hd_X11_put ⟨Nat.le_trans (by decide) hF, Nat.le_trans (by decide) hL⟩ hP (wX_D hD) hS rfl hl.1 rfl (Nat.le_of_ble_eq_true rfl) dX2_completed_51 ⟨Nat.zero_le _, Nat.zero_le _⟩) hS (fun H locs hP hS => ?_)
            refine lv_aload_n hx hb dX2_completed_54 rfl (lv_at hl 0 rfl) ?_
            refine lv_iload_n hx hb dX2_completed_55 rfl (lv_at hl 1 rfl) ?_
            obtain ⟨u5, e6, hf⟩ := bd_some hf
            refine xci (xRunV (rest := []) (As := [.int x1]) (C := RX2) (k := 1) C0 (c_X2_holdsFrom l E j hj g (upA a (30 + 7 * j) (putF 6 (a (30 + 7 * j)) x1 x4)) x1 e6) bw186 bw187 bw86 bw188 bw189 hd_X2_holdsFrom ⟨Nat.le_trans (by decide) hF, Nat.le_trans (by decide) hL⟩ hP (wX_D hD) hS (va_recv hK hP (ci := 2) rfl (gx_inst E g (upA a (30 + 7 * j) (putF 6 (a (30 + 7 * j)) x1 x4)) j hj)) rfl hl.1 rfl (Nat.le_of_ble_eq_true rfl) dX2_completed_56 ⟨Nat.zero_le _, Nat.zero_le _⟩) hS (fun H locs hP hS => ?_)
            refine lv_if_eq (tgt := 75) hx hb dX2_completed_59 (by decide) (fun c7 => ?_) (fun c7 => ?_)
            · replace hf := (if_pos c7).symm.trans hf
              refine lv_iinc (v := (x4 + 1)) (lv' := [(4, .int (x4 + 1)), (0, .ref (E.2.1 (24 + 7 * j))), (1, .int x1), (2, .int x2), (3, .int x3)]) hx hb dX2_completed_75 hl (k := 4) rfl rfl (by decide) rfl (fun ls hl => ?_)
              refine lv_goto (tgt := 11) hx hb dX2_completed_78 (by decide) ?_
              exact ih (upA a (30 + 7 * j) (putF 6 (a (30 + 7 * j)) x1 x4)) x1 x2 x3 (x4 + 1) _ _ _ hP hS (lv_sub hl [1, 2, 3, 4, 0] rfl) hf
            · replace hf := (if_neg c7).symm.trans hf
              refine lv_iload_n hx hb dX2_completed_62 rfl (lv_at hl 3 rfl) ?_
              refine lv_aload_n hx hb dX2_completed_63 rfl (lv_at hl 0 rfl) ?_
              refine lv_iload_n hx hb dX2_completed_64 rfl (lv_at hl 1 rfl) ?_
              refine lv_iconst (v := 1) hx hb dX2_completed_65 (by decide) ?_
              refine lv_isub hx hb dX2_completed_66 ?_
              refine lv_iload_n hx hb dX2_completed_67 rfl (lv_at hl 2 rfl) ?_
              refine lv_iload_n hx hb dX2_completed_68 rfl (lv_at hl 3 rfl) ?_
              refine lv_isub hx hb dX2_completed_69 ?_
              obtain ⟨u8, e9, hf⟩ := bd_some hf
              refine xci (xRunS (rest := [.int x3]) (As := [.ref (E.2.1 (24 + 7 * j)), .int (x1 - 1), .int (x2 - x3)]) (k := 3) C0 (hself j hj g (upA a (30 + 7 * j) (putF 6 (a (30 + 7 * j)) x1 x4)) (x1 - 1) (x2 - x3) _ e9) bw192 bw190 bw86 bw191 hd_X2_completed hself_room hP (wX_D hD) hS rfl hl.1 rfl (Nat.le_of_ble_eq_true rfl) dX2_completed_70 ⟨Nat.zero_le _, Nat.zero_le _⟩) hS (fun H locs hP hS => ?_)
              refine lv_iadd hx hb dX2_completed_73 ?_
              refine lv_istore_n (lv' := [(3, .int (x3 + u8.1)), (0, .ref (E.2.1 (24 + 7 * j))), (1, .int x1), (2, .int x2), (4, .int x4)]) hx hb dX2_completed_74 rfl hl (by decide) rfl (fun ls hl => ?_)
              refine lv_iinc (v := (x4 + 1)) (lv' := [(4, .int (x4 + 1)), (3, .int (x3 + u8.1)), (0, .ref (E.2.1 (24 + 7 * j))), (1, .int x1), (2, .int x2)]) hx hb dX2_completed_75 hl (k := 4) rfl rfl (by decide) rfl (fun ls hl => ?_)
              refine lv_goto (tgt := 11) hx hb dX2_completed_78 (by decide) ?_
              exact ih u8.2 x1 x2 (x3 + u8.1) (x4 + 1) _ _ _ hP hS (lv_sub hl [2, 3, 4, 1, 0] rfl) hf
  refine lv_iload_n hx hb dX2_completed_0 rfl (lv_at hl 1 rfl) ?_
  refine lv_if_ge (tgt := 6) hx hb dX2_completed_1 (by decide) (fun c1 => ?_) (fun c1 => ?_)
  · replace hf := (if_pos c1).symm.trans hf
    refine lv_iconst (v := 0) hx hb dX2_completed_6 (by decide) ?_
    refine lv_istore_n (lv' := [(3, .int 0), (0, .ref (E.2.1 (24 + 7 * j))), (1, .int v1), (2, .int v2)]) hx hb dX2_completed_7 rfl hl (by decide) rfl (fun ls hl => ?_)
    refine lv_iconst (v := 0) hx hb dX2_completed_8 (by decide) ?_
    refine lv_istore (lv' := [(4, .int 0), (3, .int 0), (0, .ref (E.2.1 (24 + 7 * j))), (1, .int v1), (2, .int v2)]) hx hb dX2_completed_9 hl (by decide) rfl (fun ls hl => ?_)
    exact B11 fu a v1 v2 0 0 _ _ _ hP hS (lv_sub hl [2, 3, 4, 1, 0] rfl) hf
  · replace hf := (if_neg c1).symm.trans hf
    refine lv_iconst (v := 1) hx hb dX2_completed_4 (by decide) ?_
    exact xi_retS (fr := (fun r => r.1)) (fw := (fun r => wX E g r.2)) hx hb hr hlocks (Option.some.inj hf) hP hS dX2_completed_5
set_option maxRecDepth 100000 in
set_option maxHeartbeats 40000000 in
theorem c_X2_completed (l : Launch) (E : xE) : ∀ (n : Nat) (j : Nat) (hj : j < 2) (g : xG) (a : xA) (v1 : Int32) (v2 : Int32) (res : Int32 × xA) (_ : f_X2_completed n j g a v1 v2 = some res), xM l E yX2_completed cX2_completed 5 (some .int) (4 + n) (88 + 24 * n) [.ref (E.2.1 (24 + 7 * j)), .int v1, .int v2] (wX E g a) (xQi E res.1 (wX E g res.2)) := by
  intro n
  induction n with
  | zero => intro j hj g a v1 v2 res hf; exact absurd (show (none : Option (Int32 × xA)) = some res from hf) (by intro h; cases h)
  | succ n ih => intro j hj g a v1 v2 res hf; exact cb_X2_completed l E (f_X2_completed n) (4 + n) (88 + 24 * n) _ _ (fun j hj g a v1 v2 res h => ih j hj g a v1 v2 res h) ⟨by omega, by omega⟩ (by omega) (by omega) j hj g a v1 v2 hf
def f_X2_hasSolution (j : Nat) (g : xG) (a : xA) : Option (Int32 × xA) := Option.bind (f_X2_completed 8 j g a ((g (12 + 2 * j)) - 1) 1) (fun u1 => (if u1.1 ≤ 0 then some (0, u1.2) else some (1, u1.2)))
set_option maxRecDepth 100000 in
set_option maxHeartbeats 40000000 in
theorem c_X2_hasSolution (l : Launch) (E : xE) (j : Nat) (hj : j < 2) (g : xG) (a : xA) {res : Int32 × xA} (hf : f_X2_hasSolution j g a = some res) : xM l E yX2_hasSolution cX2_hasSolution 1 (some .boolean) 13 304 [.ref (E.2.1 (24 + 7 * j))] (wX E g a) (xQi E res.1 (wX E g res.2)) := by
  unfold f_X2_hasSolution at hf
  refine xM_of (by decide) (Nat.le_of_ble_eq_true rfl) ?_
  intro p e s m below meth c A hx hb hr hml hts hown hlocks hA hD hP hK hN hS ls hl
  have hw : ∀ w ∈ BW, w.before _ s = true := fun w h => hts w (List.mem_cons_of_mem _ h)
  have C0 : xCtx E p m c cX2_hasSolution 1 s _ RX2 A yX2_hasSolution cX2_hasSolution 1 (some .boolean) := ⟨hx, hb, hml, hown, hts, hA, hK, hN⟩
  have hl : lv_has ls 1 [(0, .ref (E.2.1 (24 + 7 * j)))] := hl
  refine lv_aload_n hx hb dX2_hasSolution_0 rfl (lv_at hl 0 rfl) ?_
  refine lv_aload_n hx hb dX2_hasSolution_1 rfl (lv_at hl 0 rfl) ?_
  refine va_get (C := RX2) (T := TX2) (N := 10) hx hb hw bfX20 hown hK hP (24 + 7 * j) (gx_inst E g a j hj) rfl 3 (by decide) (hw _ bw91) (fun _ h9 => h9) rfl dX2_hasSolution_2 ?_
  refine lv_iconst (v := 1) hx hb dX2_hasSolution_5 (by decide) ?_
  refine lv_isub hx hb dX2_hasSolution_6 ?_
  refine lv_iconst (v := 1) hx hb dX2_hasSolution_7 (by decide) ?_
  obtain ⟨u1, e2, hf⟩ := bd_some hf
  refine xci (xRunS (rest := []) (As := [.ref (E.2.1 (24 + 7 * j)), .int ((g (12 + 2 * j)) - 1), .int 1]) (k := 3) C0 (c_X2_completed l E 8 j hj g a ((g (12 + 2 * j)) - 1) 1 _ e2) bw192 bw190 bw86 bw191 hd_X2_completed ⟨Nat.le_of_ble_eq_true rfl, Nat.le_of_ble_eq_true rfl⟩ hP (wX_D hD) hS rfl hl.1 rfl (Nat.le_of_ble_eq_true rfl) dX2_hasSolution_8 ⟨Nat.zero_le _, Nat.zero_le _⟩) hS (fun H locs hP hS => ?_)
  refine lv_if_le (tgt := 18) hx hb dX2_hasSolution_11 (by decide) (fun c3 => ?_) (fun c3 => ?_)
  · replace hf := (if_pos c3).symm.trans hf
    refine lv_iconst (v := 0) hx hb dX2_hasSolution_18 (by decide) ?_
    exact xz_retS (fr := (fun r => r.1)) (fw := (fun r => wX E g r.2)) hx hb hr hlocks (Option.some.inj hf) nz0 hP hS dX2_hasSolution_19
  · replace hf := (if_neg c3).symm.trans hf
    refine lv_iconst (v := 1) hx hb dX2_hasSolution_14 (by decide) ?_
    refine lv_goto (tgt := 19) hx hb dX2_hasSolution_15 (by decide) ?_
    exact xz_retS (fr := (fun r => r.1)) (fw := (fun r => wX E g r.2)) hx hb hr hlocks (Option.some.inj hf) nz1 hP hS dX2_hasSolution_19
def f_X1_tuplesOfHead_28 (g : xG) (K4 : xA → Int32 → Int32 → Option (Int32 × xA)) : Nat → xA → Int32 → Int32 → Int32 → Option (Int32 × xA)
  | 0, _, _, _, _ => none
  | n + 1, a, x1, x2, x3 => (if (g 7) ≤ x3 then Option.bind (f_X2_hasSolution 0 g a) (fun u5 => (if u5.1 = 0 then K4 u5.2 x1 (x2 + 1) else K4 u5.2 (x1 ||| ((1 : Int32) <<< (x2 &&& 31))) (x2 + 1))) else f_X1_tuplesOfHead_28 g K4 n (t_X2_allowOnly 0 g a (atF 3 (a 22) x3) (t_X4_digit g a x2 x3)) x1 x2 (x3 + 1))
theorem e_X1_tuplesOfHead_28 (g : xG) (K4 : xA → Int32 → Int32 → Option (Int32 × xA)) (n : Nat) (a : xA) (x1 : Int32) (x2 : Int32) (x3 : Int32) : f_X1_tuplesOfHead_28 g K4 (n + 1) a x1 x2 x3 = (if (g 7) ≤ x3 then Option.bind (f_X2_hasSolution 0 g a) (fun u5 => (if u5.1 = 0 then K4 u5.2 x1 (x2 + 1) else K4 u5.2 (x1 ||| ((1 : Int32) <<< (x2 &&& 31))) (x2 + 1))) else f_X1_tuplesOfHead_28 g K4 n (t_X2_allowOnly 0 g a (atF 3 (a 22) x3) (t_X4_digit g a x2 x3)) x1 x2 (x3 + 1)) := rfl
def f_X1_tuplesOfHead_4 (g : xG) : Nat → xA → Int32 → Int32 → Option (Int32 × xA)
  | 0, _, _, _ => none
  | n + 1, a, x1, x2 => (if (t_X4_power g a (g 7)) ≤ x2 then some (x1, a) else Option.bind (f_X2_allowAll 0 g a) (fun u2 => f_X1_tuplesOfHead_28 g (f_X1_tuplesOfHead_4 g n) fu u2 x1 x2 0))
theorem e_X1_tuplesOfHead_4 (g : xG) (n : Nat) (a : xA) (x1 : Int32) (x2 : Int32) : f_X1_tuplesOfHead_4 g (n + 1) a x1 x2 = (if (t_X4_power g a (g 7)) ≤ x2 then some (x1, a) else Option.bind (f_X2_allowAll 0 g a) (fun u2 => f_X1_tuplesOfHead_28 g (f_X1_tuplesOfHead_4 g n) fu u2 x1 x2 0)) := rfl
def f_X1_tuplesOfHead (g : xG) (a : xA) : Option (Int32 × xA) := f_X1_tuplesOfHead_4 g fu a 0 0
set_option maxRecDepth 100000 in
set_option maxHeartbeats 40000000 in
theorem c_X1_tuplesOfHead (l : Launch) (E : xE) (g : xG) (a : xA) {res : Int32 × xA} (hf : f_X1_tuplesOfHead g a = some res) : xM l E yX1_tuplesOfHead cX1_tuplesOfHead 4 (some .int) 14 324 [.ref (E.2.1 21)] (wX E g a) (xQi E res.1 (wX E g res.2)) := by
  unfold f_X1_tuplesOfHead at hf
  refine xM_of (by decide) (Nat.le_of_ble_eq_true rfl) ?_
  intro p e s m below meth c A hx hb hr hml hts hown hlocks hA hD hP hK hN hS ls hl
  have hw : ∀ w ∈ BW, w.before _ s = true := fun w h => hts w (List.mem_cons_of_mem _ h)
  have C0 : xCtx E p m c cX1_tuplesOfHead 4 s _ RX1 A yX1_tuplesOfHead cX1_tuplesOfHead 4 (some .int) := ⟨hx, hb, hml, hown, hts, hA, hK, hN⟩
  have hl : lv_has ls 4 [(0, .ref (E.2.1 21))] := hl
  have B28 : ∀ (K4 : xA → Int32 → Int32 → Option (Int32 × xA)) (hK4 : ∀ (a : xA) (x1 : Int32) (x2 : Int32) (H : Heap) (locs : List Loc) (ls : Array Slot), va_P E.1 vwCl (wX E g a) H → va_S A s.heap H locs → lv_has ls 4 [(0, .ref (E.2.1 21)), (1, .int x1), (2, .int x2)] → K4 a x1 x2 = some res → W p l e ({ frames := 14, cells := 0, slots := 0, locals := 324 }) s m ([.ref (E.2.1 21)] : List Value).toArray below meth c H locs 0 0 (MQ below ((xQi E res.1 (wX E g res.2)) A) ([.ref (E.2.1 21)] : List Value).toArray s 0 0 A) (F0 m 4 ls [])) (n : Nat) (a : xA) (x1 : Int32) (x2 : Int32) (x3 : Int32) (H : Heap) (locs : List Loc) (ls : Array Slot), va_P E.1 vwCl (wX E g a) H → va_S A s.heap H locs → lv_has ls 4 [(0, .ref (E.2.1 21)), (1, .int x1), (2, .int x2), (3, .int x3)] → f_X1_tuplesOfHead_28 g K4 n a x1 x2 x3 = some res → W p l e ({ frames := 14, cells := 0, slots := 0, locals := 324 }) s m ([.ref (E.2.1 21)] : List Value).toArray below meth c H locs 0 0 (MQ below ((xQi E res.1 (wX E g res.2)) A) ([.ref (E.2.1 21)] : List Value).toArray s 0 0 A) (F0 m 28 ls []) := by
    intro K4 hK4 n
    induction n with
    | zero => intro a x1 x2 x3 H locs ls hP hS hl hf; exact absurd (show (none : Option (Int32 × xA)) = some res from hf) (by intro h; cases h)
    | succ n ih =>
      intro a x1 x2 x3 H locs ls hP hS hl hf
      replace hf := (e_X1_tuplesOfHead_28 g K4 n a x1 x2 x3).symm.trans hf
      refine lv_iload_n hx hb dX1_tuplesOfHead_28 rfl (lv_at hl 3 rfl) ?_
      refine lv_aload_n hx hb dX1_tuplesOfHead_29 rfl (lv_at hl 0 rfl) ?_
      refine va_get (C := RX1) (T := TX1) (N := 9) hx hb hw bfX10 hown hK hP 21 (gx_21 E g a) rfl 0 (by decide) (hw _ bw100) (fun _ h9 => h9) rfl dX1_tuplesOfHead_30 ?_
      refine lv_icmp_ge (tgt := 66) hx hb dX1_tuplesOfHead_33 (by decide) (fun c4 => ?_) (fun c4 => ?_)
      · replace hf := (if_pos c4).symm.trans hf
        refine lv_aload_n hx hb dX1_tuplesOfHead_66 rfl (lv_at hl 0 rfl) ?_
        refine va_get (C := RX1) (T := TX1) (N := 9) hx hb hw bfX10 hown hK hP 21 (gx_21 E g a) rfl 3 (by decide) (hw _ bw87) (fun _ h9 => h9) rfl dX1_tuplesOfHead_67 ?_
        obtain ⟨u5, e6, hf⟩ := bd_some hf
        refine xci (xRunV (rest := []) (As := []) (C := RX2) (k := 0) C0 (c_X2_hasSolution l E 0 (by decide) g a e6) bw193 bw204 bw86 bw205 bw206 hd_X2_hasSolution ⟨Nat.le_of_ble_eq_true rfl, Nat.le_of_ble_eq_true rfl⟩ hP (wX_D hD) hS (va_recv hK hP (ci := 2) rfl (gx_24 E g a)) rfl hl.1 rfl (Nat.le_of_ble_eq_true rfl) dX1_tuplesOfHead_70 ⟨Nat.zero_le _, Nat.zero_le _⟩) hS (fun H locs hP hS => ?_)
        refine lv_if_eq (tgt := 82) hx hb dX1_tuplesOfHead_73 (by decide) (fun c7 => ?_) (fun c7 => ?_)
        · replace hf := (if_pos c7).symm.trans hf
          refine lv_iinc (v := (x2 + 1)) (lv' := [(2, .int (x2 + 1)), (0, .ref (E.2.1 21)), (1, .int x1), (3, .int x3)]) hx hb dX1_tuplesOfHead_82 hl (k := 2) rfl rfl (by decide) rfl (fun ls hl => ?_)
          refine lv_goto (tgt := 4) hx hb dX1_tuplesOfHead_85 (by decide) ?_
          exact hK4 u5.2 x1 (x2 + 1) _ _ _ hP hS (lv_sub hl [1, 2, 0] rfl) hf
        · replace hf := (if_neg c7).symm.trans hf
          refine lv_iload_n hx hb dX1_tuplesOfHead_76 rfl (lv_at hl 1 rfl) ?_
          refine lv_iconst (v := 1) hx hb dX1_tuplesOfHead_77 (by decide) ?_
          refine lv_iload_n hx hb dX1_tuplesOfHead_78 rfl (lv_at hl 2 rfl) ?_
          refine lv_ishl hx hb dX1_tuplesOfHead_79 ?_
          refine lv_ior hx hb dX1_tuplesOfHead_80 ?_
          refine lv_istore_n (lv' := [(1, .int (x1 ||| ((1 : Int32) <<< (x2 &&& 31)))), (0, .ref (E.2.1 21)), (2, .int x2), (3, .int x3)]) hx hb dX1_tuplesOfHead_81 rfl hl (by decide) rfl (fun ls hl => ?_)
          refine lv_iinc (v := (x2 + 1)) (lv' := [(2, .int (x2 + 1)), (1, .int (x1 ||| ((1 : Int32) <<< (x2 &&& 31)))), (0, .ref (E.2.1 21)), (3, .int x3)]) hx hb dX1_tuplesOfHead_82 hl (k := 2) rfl rfl (by decide) rfl (fun ls hl => ?_)
          refine lv_goto (tgt := 4) hx hb dX1_tuplesOfHead_85 (by decide) ?_
          exact hK4 u5.2 (x1 ||| ((1 : Int32) <<< (x2 &&& 31))) (x2 + 1) _ _ _ hP hS (lv_sub hl [2, 1, 0] rfl) hf
      · replace hf := (if_neg c4).symm.trans hf
        refine lv_aload_n hx hb dX1_tuplesOfHead_36 rfl (lv_at hl 0 rfl) ?_
        refine va_get (C := RX1) (T := TX1) (N := 9) hx hb hw bfX10 hown hK hP 21 (gx_21 E g a) rfl 3 (by decide) (hw _ bw87) (fun _ h9 => h9) rfl dX1_tuplesOfHead_37 ?_
        refine lv_aload_n hx hb dX1_tuplesOfHead_40 rfl (lv_at hl 0 rfl) ?_
        refine va_get (C := RX1) (T := TX1) (N := 9) hx hb hw bfX10 hown hK hP 21 (gx_21 E g a) rfl 4 (by decide) (hw _ bw80) (fun _ h9 => h9) rfl dX1_tuplesOfHead_41 ?_
        refine lv_iload_n hx hb dX1_tuplesOfHead_44 rfl (lv_at hl 3 rfl) ?_
        refine xci (xRunN (rest := [.ref (E.2.1 24)]) (As := [.ref (E.2.1 22), .int x3]) (k := 2) C0 (c_at l E (wX E g a) 22 x3 (gx_22 E g a) (Nat.le_of_ble_eq_true rfl)) bw9 nw5 bw13 bw12 hd_X11_at ⟨Nat.le_of_ble_eq_true rfl, Nat.le_of_ble_eq_true rfl⟩ hP (wX_D hD) hS rfl hl.1 rfl (Nat.le_of_ble_eq_true rfl) dX1_tuplesOfHead_45 ⟨Nat.zero_le _, Nat.zero_le _⟩) hS (fun H locs hP hS => ?_)
        refine lv_aload_n hx hb dX1_tuplesOfHead_48 rfl (lv_at hl 0 rfl) ?_
        refine va_get (C := RX1) (T := TX1) (N := 9) hx hb hw bfX10 hown hK hP 21 (gx_21 E g a) rfl 1 (by decide) (hw _ bw82) (fun _ h9 => h9) rfl dX1_tuplesOfHead_49 ?_
        refine lv_iload_n hx hb dX1_tuplesOfHead_52 rfl (lv_at hl 2 rfl) ?_
        refine lv_iload_n hx hb dX1_tuplesOfHead_53 rfl (lv_at hl 3 rfl) ?_
        refine xci (xRunV (rest := [.int (atF 3 (a 22) x3), .ref (E.2.1 24)]) (As := [.int x2, .int x3]) (C := RX4) (k := 2) C0 (c_X4_digit l E g a x2 x3) bw174 bw198 bw22 bw199 bw200 hd_X4_digit ⟨Nat.le_of_ble_eq_true rfl, Nat.le_of_ble_eq_true rfl⟩ hP (wX_D hD) hS (va_recv hK hP (ci := 4) rfl (gx_1 E g a)) rfl hl.1 rfl (Nat.le_of_ble_eq_true rfl) dX1_tuplesOfHead_54 ⟨Nat.zero_le _, Nat.zero_le _⟩) hS (fun H locs hP hS => ?_)
        refine xcv (xRunV (rest := []) (As := [.int (atF 3 (a 22) x3), .int (t_X4_digit g a x2 x3)]) (C := RX2) (k := 2) C0 (c_X2_allowOnly l E 0 (by decide) g a (atF 3 (a 22) x3) (t_X4_digit g a x2 x3)) bw175 bw201 bw86 bw202 bw203 hd_X2_allowOnly ⟨Nat.le_of_ble_eq_true rfl, Nat.le_of_ble_eq_true rfl⟩ hP (wX_D hD) hS (va_recv hK hP (ci := 2) rfl (gx_24 E g a)) rfl hl.1 rfl (Nat.le_of_ble_eq_true rfl) dX1_tuplesOfHead_57 ⟨Nat.zero_le _, Nat.zero_le _⟩) hS (fun H locs hP hS => ?_)
        refine lv_iinc (v := (x3 + 1)) (lv' := [(3, .int (x3 + 1)), (0, .ref (E.2.1 21)), (1, .int x1), (2, .int x2)]) hx hb dX1_tuplesOfHead_60 hl (k := 3) rfl rfl (by decide) rfl (fun ls hl => ?_)
        refine lv_goto (tgt := 28) hx hb dX1_tuplesOfHead_63 (by decide) ?_
        exact ih (t_X2_allowOnly 0 g a (atF 3 (a 22) x3) (t_X4_digit g a x2 x3)) x1 x2 (x3 + 1) _ _ _ hP hS (lv_sub hl [1, 2, 3, 0] rfl) hf
  have B4 : ∀ (n : Nat) (a : xA) (x1 : Int32) (x2 : Int32) (H : Heap) (locs : List Loc) (ls : Array Slot), va_P E.1 vwCl (wX E g a) H → va_S A s.heap H locs → lv_has ls 4 [(0, .ref (E.2.1 21)), (1, .int x1), (2, .int x2)] → f_X1_tuplesOfHead_4 g n a x1 x2 = some res → W p l e ({ frames := 14, cells := 0, slots := 0, locals := 324 }) s m ([.ref (E.2.1 21)] : List Value).toArray below meth c H locs 0 0 (MQ below ((xQi E res.1 (wX E g res.2)) A) ([.ref (E.2.1 21)] : List Value).toArray s 0 0 A) (F0 m 4 ls []) := by
    intro n
    induction n with
    | zero => intro a x1 x2 H locs ls hP hS hl hf; exact absurd (show (none : Option (Int32 × xA)) = some res from hf) (by intro h; cases h)
    | succ n ih =>
      intro a x1 x2 H locs ls hP hS hl hf
      replace hf := (e_X1_tuplesOfHead_4 g n a x1 x2).symm.trans hf
      refine lv_iload_n hx hb dX1_tuplesOfHead_4 rfl (lv_at hl 2 rfl) ?_
      refine lv_aload_n hx hb dX1_tuplesOfHead_5 rfl (lv_at hl 0 rfl) ?_
      refine va_get (C := RX1) (T := TX1) (N := 9) hx hb hw bfX10 hown hK hP 21 (gx_21 E g a) rfl 1 (by decide) (hw _ bw82) (fun _ h9 => h9) rfl dX1_tuplesOfHead_6 ?_
      refine lv_aload_n hx hb dX1_tuplesOfHead_9 rfl (lv_at hl 0 rfl) ?_
      refine va_get (C := RX1) (T := TX1) (N := 9) hx hb hw bfX10 hown hK hP 21 (gx_21 E g a) rfl 0 (by decide) (hw _ bw100) (fun _ h9 => h9) rfl dX1_tuplesOfHead_10 ?_
      refine xci (xRunV (rest := [.int x2]) (As := [.int (g 7)]) (C := RX4) (k := 1) C0 (c_X4_power l E g a (g 7)) bw55 bw194 bw22 bw58 bw59 hd_X4_power ⟨Nat.le_of_ble_eq_true rfl, Nat.le_of_ble_eq_true rfl⟩ hP (wX_D hD) hS (va_recv hK hP (ci := 4) rfl (gx_1 E g a)) rfl hl.1 rfl (Nat.le_of_ble_eq_true rfl) dX1_tuplesOfHead_13 ⟨Nat.zero_le _, Nat.zero_le _⟩) hS (fun H locs hP hS => ?_)
      refine lv_icmp_ge (tgt := 88) hx hb dX1_tuplesOfHead_16 (by decide) (fun c1 => ?_) (fun c1 => ?_)
      · replace hf := (if_pos c1).symm.trans hf
        refine lv_iload_n hx hb dX1_tuplesOfHead_88 rfl (lv_at hl 1 rfl) ?_
        exact xi_retS (fr := (fun r => r.1)) (fw := (fun r => wX E g r.2)) hx hb hr hlocks (Option.some.inj hf) hP hS dX1_tuplesOfHead_89
      · replace hf := (if_neg c1).symm.trans hf
        refine lv_aload_n hx hb dX1_tuplesOfHead_19 rfl (lv_at hl 0 rfl) ?_
        refine va_get (C := RX1) (T := TX1) (N := 9) hx hb hw bfX10 hown hK hP 21 (gx_21 E g a) rfl 3 (by decide) (hw _ bw87) (fun _ h9 => h9) rfl dX1_tuplesOfHead_20 ?_
        obtain ⟨u2, e3, hf⟩ := bd_some hf
        refine xcv (xRunV (rest := []) (As := []) (C := RX2) (k := 0) C0 (c_X2_allowAll l E 0 (by decide) g a e3) bw170 bw195 bw86 bw196 bw197 hd_X2_allowAll ⟨Nat.le_of_ble_eq_true rfl, Nat.le_of_ble_eq_true rfl⟩ hP (wX_D hD) hS (va_recv hK hP (ci := 2) rfl (gx_24 E g a)) rfl hl.1 rfl (Nat.le_of_ble_eq_true rfl) dX1_tuplesOfHead_23 ⟨Nat.zero_le _, Nat.zero_le _⟩) hS (fun H locs hP hS => ?_)
        refine lv_iconst (v := 0) hx hb dX1_tuplesOfHead_26 (by decide) ?_
        refine lv_istore_n (lv' := [(3, .int 0), (0, .ref (E.2.1 21)), (1, .int x1), (2, .int x2)]) hx hb dX1_tuplesOfHead_27 rfl hl (by decide) rfl (fun ls hl => ?_)
        exact B28 (f_X1_tuplesOfHead_4 g n) ih fu u2 x1 x2 0 _ _ _ hP hS (lv_sub hl [1, 2, 3, 0] rfl) hf
  refine lv_iconst (v := 0) hx hb dX1_tuplesOfHead_0 (by decide) ?_
  refine lv_istore_n (lv' := [(1, .int 0), (0, .ref (E.2.1 21))]) hx hb dX1_tuplesOfHead_1 rfl hl (by decide) rfl (fun ls hl => ?_)
  refine lv_iconst (v := 0) hx hb dX1_tuplesOfHead_2 (by decide) ?_
  refine lv_istore_n (lv' := [(2, .int 0), (1, .int 0), (0, .ref (E.2.1 21))]) hx hb dX1_tuplesOfHead_3 rfl hl (by decide) rfl (fun ls hl => ?_)
  exact B4 fu a 0 0 _ _ _ hP hS (lv_sub hl [2, 1, 0] rfl) hf
def t_X2_isThere (j : Nat) (g : xG) (a : xA) (v1 : Int32) : Int32 := (if v1 < 0 then 0 else (if (g (12 + 2 * j)) ≤ v1 then 0 else 1))
set_option maxRecDepth 100000 in
set_option maxHeartbeats 40000000 in
theorem c_X2_isThere (l : Launch) (E : xE) (j : Nat) (hj : j < 2) (g : xG) (a : xA) (v1 : Int32) : xM l E yX2_isThere cX2_isThere 2 (some .boolean) 0 0 [.ref (E.2.1 (24 + 7 * j)), .int v1] (wX E g a) (xQi E (t_X2_isThere j g a v1) (wX E g a)) := by
  obtain ⟨res, hres⟩ : ∃ z, z = t_X2_isThere j g a v1 := ⟨_, rfl⟩
  rw [← hres]
  have hf : _ = res := hres.symm
  unfold t_X2_isThere at hf
  refine xM_of (by decide) (Nat.le_of_ble_eq_true rfl) ?_
  intro p e s m below meth c A hx hb hr hml hts hown hlocks hA hD hP hK hN hS ls hl
  have hw : ∀ w ∈ BW, w.before _ s = true := fun w h => hts w (List.mem_cons_of_mem _ h)
  have C0 : xCtx E p m c cX2_isThere 2 s _ RX2 A yX2_isThere cX2_isThere 2 (some .boolean) := ⟨hx, hb, hml, hown, hts, hA, hK, hN⟩
  have hl : lv_has ls 2 [(0, .ref (E.2.1 (24 + 7 * j))), (1, .int v1)] := hl
  refine lv_iload_n hx hb dX2_isThere_0 rfl (lv_at hl 1 rfl) ?_
  refine lv_if_lt (tgt := 16) hx hb dX2_isThere_1 (by decide) (fun c1 => ?_) (fun c1 => ?_)
  · replace hf := (if_pos c1).symm.trans hf
    refine lv_iconst (v := 0) hx hb dX2_isThere_16 (by decide) ?_
    exact xz_retS (fr := (fun r => r)) (fw := (fun r => wX E g a)) hx hb hr hlocks hf nz0 hP hS dX2_isThere_17
  · replace hf := (if_neg c1).symm.trans hf
    refine lv_iload_n hx hb dX2_isThere_4 rfl (lv_at hl 1 rfl) ?_
    refine lv_aload_n hx hb dX2_isThere_5 rfl (lv_at hl 0 rfl) ?_
    refine va_get (C := RX2) (T := TX2) (N := 10) hx hb hw bfX20 hown hK hP (24 + 7 * j) (gx_inst E g a j hj) rfl 3 (by decide) (hw _ bw91) (fun _ h9 => h9) rfl dX2_isThere_6 ?_
    refine lv_icmp_ge (tgt := 16) hx hb dX2_isThere_9 (by decide) (fun c2 => ?_) (fun c2 => ?_)
    · replace hf := (if_pos c2).symm.trans hf
      refine lv_iconst (v := 0) hx hb dX2_isThere_16 (by decide) ?_
      exact xz_retS (fr := (fun r => r)) (fw := (fun r => wX E g a)) hx hb hr hlocks hf nz0 hP hS dX2_isThere_17
    · replace hf := (if_neg c2).symm.trans hf
      refine lv_iconst (v := 1) hx hb dX2_isThere_12 (by decide) ?_
      refine lv_goto (tgt := 17) hx hb dX2_isThere_13 (by decide) ?_
      exact xz_retS (fr := (fun r => r)) (fw := (fun r => wX E g a)) hx hb hr hlocks hf nz1 hP hS dX2_isThere_17
def t_X2_variableCount (j : Nat) (g : xG) (a : xA) : Int32 := (g (12 + 2 * j))
set_option maxRecDepth 100000 in
set_option maxHeartbeats 40000000 in
theorem c_X2_variableCount (l : Launch) (E : xE) (j : Nat) (hj : j < 2) (g : xG) (a : xA) : xM l E yX2_variableCount cX2_variableCount 1 (some .int) 0 0 [.ref (E.2.1 (24 + 7 * j))] (wX E g a) (xQi E (t_X2_variableCount j g a) (wX E g a)) := by
  obtain ⟨res, hres⟩ : ∃ z, z = t_X2_variableCount j g a := ⟨_, rfl⟩
  rw [← hres]
  have hf : _ = res := hres.symm
  unfold t_X2_variableCount at hf
  refine xM_of (by decide) (Nat.le_of_ble_eq_true rfl) ?_
  intro p e s m below meth c A hx hb hr hml hts hown hlocks hA hD hP hK hN hS ls hl
  have hw : ∀ w ∈ BW, w.before _ s = true := fun w h => hts w (List.mem_cons_of_mem _ h)
  have C0 : xCtx E p m c cX2_variableCount 1 s _ RX2 A yX2_variableCount cX2_variableCount 1 (some .int) := ⟨hx, hb, hml, hown, hts, hA, hK, hN⟩
  have hl : lv_has ls 1 [(0, .ref (E.2.1 (24 + 7 * j)))] := hl
  refine lv_aload_n hx hb dX2_variableCount_0 rfl (lv_at hl 0 rfl) ?_
  refine va_get (C := RX2) (T := TX2) (N := 10) hx hb hw bfX20 hown hK hP (24 + 7 * j) (gx_inst E g a j hj) rfl 3 (by decide) (hw _ bw91) (fun _ h9 => h9) rfl dX2_variableCount_1 ?_
  exact xi_retS (fr := (fun r => r)) (fw := (fun r => wX E g a)) hx hb hr hlocks hf hP hS dX2_variableCount_4
def f_X2_countSolutions (j : Nat) (g : xG) (a : xA) : Option (Int32 × xA) := Option.bind (f_X2_allowAll j g a) (fun u1 => Option.bind (f_X2_completed 8 j g u1 ((g (12 + 2 * j)) - 1) (t_X4_power g u1 (g (12 + 2 * j)))) (fun u3 => some (u3.1, u3.2)))
set_option maxRecDepth 100000 in
set_option maxHeartbeats 40000000 in
theorem c_X2_countSolutions (l : Launch) (E : xE) (j : Nat) (hj : j < 2) (g : xG) (a : xA) {res : Int32 × xA} (hf : f_X2_countSolutions j g a = some res) : xM l E yX2_countSolutions cX2_countSolutions 1 (some .int) 13 304 [.ref (E.2.1 (24 + 7 * j))] (wX E g a) (xQi E res.1 (wX E g res.2)) := by
  unfold f_X2_countSolutions at hf
  refine xM_of (by decide) (Nat.le_of_ble_eq_true rfl) ?_
  intro p e s m below meth c A hx hb hr hml hts hown hlocks hA hD hP hK hN hS ls hl
  have hw : ∀ w ∈ BW, w.before _ s = true := fun w h => hts w (List.mem_cons_of_mem _ h)
  have C0 : xCtx E p m c cX2_countSolutions 1 s _ RX2 A yX2_countSolutions cX2_countSolutions 1 (some .int) := ⟨hx, hb, hml, hown, hts, hA, hK, hN⟩
  have hl : lv_has ls 1 [(0, .ref (E.2.1 (24 + 7 * j)))] := hl
  refine lv_aload_n hx hb dX2_countSolutions_0 rfl (lv_at hl 0 rfl) ?_
  obtain ⟨u1, e2, hf⟩ := bd_some hf
  refine xcv (xRunV (rest := []) (As := []) (C := RX2) (k := 0) C0 (c_X2_allowAll l E j hj g a e2) bw170 bw210 bw86 bw196 bw197 hd_X2_allowAll ⟨Nat.le_of_ble_eq_true rfl, Nat.le_of_ble_eq_true rfl⟩ hP (wX_D hD) hS (va_recv hK hP (ci := 2) rfl (gx_inst E g a j hj)) rfl hl.1 rfl (Nat.le_of_ble_eq_true rfl) dX2_countSolutions_1 ⟨Nat.zero_le _, Nat.zero_le _⟩) hS (fun H locs hP hS => ?_)
  refine lv_aload_n hx hb dX2_countSolutions_4 rfl (lv_at hl 0 rfl) ?_
  refine lv_aload_n hx hb dX2_countSolutions_5 rfl (lv_at hl 0 rfl) ?_
  refine va_get (C := RX2) (T := TX2) (N := 10) hx hb hw bfX20 hown hK hP (24 + 7 * j) (gx_inst E g u1 j hj) rfl 3 (by decide) (hw _ bw91) (fun _ h9 => h9) rfl dX2_countSolutions_6 ?_
  refine lv_iconst (v := 1) hx hb dX2_countSolutions_9 (by decide) ?_
  refine lv_isub hx hb dX2_countSolutions_10 ?_
  refine lv_aload_n hx hb dX2_countSolutions_11 rfl (lv_at hl 0 rfl) ?_
  refine va_get (C := RX2) (T := TX2) (N := 10) hx hb hw bfX20 hown hK hP (24 + 7 * j) (gx_inst E g u1 j hj) rfl 1 (by decide) (hw _ bw76) (fun _ h9 => h9) rfl dX2_countSolutions_12 ?_
  refine lv_aload_n hx hb dX2_countSolutions_15 rfl (lv_at hl 0 rfl) ?_
  refine va_get (C := RX2) (T := TX2) (N := 10) hx hb hw bfX20 hown hK hP (24 + 7 * j) (gx_inst E g u1 j hj) rfl 3 (by decide) (hw _ bw91) (fun _ h9 => h9) rfl dX2_countSolutions_16 ?_
  refine xci (xRunV (rest := [.int ((g (12 + 2 * j)) - 1), .ref (E.2.1 (24 + 7 * j))]) (As := [.int (g (12 + 2 * j))]) (C := RX4) (k := 1) C0 (c_X4_power l E g u1 (g (12 + 2 * j))) bw55 bw211 bw22 bw58 bw59 hd_X4_power ⟨Nat.le_of_ble_eq_true rfl, Nat.le_of_ble_eq_true rfl⟩ hP (wX_D hD) hS (va_recv hK hP (ci := 4) rfl (gx_1 E g u1)) rfl hl.1 rfl (Nat.le_of_ble_eq_true rfl) dX2_countSolutions_19 ⟨Nat.zero_le _, Nat.zero_le _⟩) hS (fun H locs hP hS => ?_)
  obtain ⟨u3, e4, hf⟩ := bd_some hf
  refine xci (xRunS (rest := []) (As := [.ref (E.2.1 (24 + 7 * j)), .int ((g (12 + 2 * j)) - 1), .int (t_X4_power g u1 (g (12 + 2 * j)))]) (k := 3) C0 (c_X2_completed l E 8 j hj g u1 ((g (12 + 2 * j)) - 1) (t_X4_power g u1 (g (12 + 2 * j))) _ e4) bw192 bw190 bw86 bw191 hd_X2_completed ⟨Nat.le_of_ble_eq_true rfl, Nat.le_of_ble_eq_true rfl⟩ hP (wX_D hD) hS rfl hl.1 rfl (Nat.le_of_ble_eq_true rfl) dX2_countSolutions_22 ⟨Nat.zero_le _, Nat.zero_le _⟩) hS (fun H locs hP hS => ?_)
  exact xi_retS (fr := (fun r => r.1)) (fw := (fun r => wX E g r.2)) hx hb hr hlocks (Option.some.inj hf) hP hS dX2_countSolutions_25
def f_X2_lowestSolution_22 (j : Nat) (g : xG) : Nat → xA → Int32 → Int32 → Option (Int32 × xA)
  | 0, _, _, _ => none
  | n + 1, a, x1, x2 => (if x2 < 0 then some (x1, a) else f_X2_lowestSolution_22 j g n a ((x1 * (g 0)) + (atF 6 (a (30 + 7 * j)) x2)) (x2 + (-1)))
theorem e_X2_lowestSolution_22 (j : Nat) (g : xG) (n : Nat) (a : xA) (x1 : Int32) (x2 : Int32) : f_X2_lowestSolution_22 j g (n + 1) a x1 x2 = (if x2 < 0 then some (x1, a) else f_X2_lowestSolution_22 j g n a ((x1 * (g 0)) + (atF 6 (a (30 + 7 * j)) x2)) (x2 + (-1))) := rfl
def f_X2_lowestSolution (j : Nat) (g : xG) (a : xA) : Option (Int32 × xA) := Option.bind (f_X2_allowAll j g a) (fun u1 => Option.bind (f_X2_hasSolution j g u1) (fun u3 => (if u3.1 = 0 then some ((-1), u3.2) else f_X2_lowestSolution_22 j g fu u3.2 0 ((g (12 + 2 * j)) - 1))))
set_option maxRecDepth 100000 in
set_option maxHeartbeats 40000000 in
theorem c_X2_lowestSolution (l : Launch) (E : xE) (j : Nat) (hj : j < 2) (g : xG) (a : xA) {res : Int32 × xA} (hf : f_X2_lowestSolution j g a = some res) : xM l E yX2_lowestSolution cX2_lowestSolution 3 (some .int) 14 324 [.ref (E.2.1 (24 + 7 * j))] (wX E g a) (xQi E res.1 (wX E g res.2)) := by
  unfold f_X2_lowestSolution at hf
  refine xM_of (by decide) (Nat.le_of_ble_eq_true rfl) ?_
  intro p e s m below meth c A hx hb hr hml hts hown hlocks hA hD hP hK hN hS ls hl
  have hw : ∀ w ∈ BW, w.before _ s = true := fun w h => hts w (List.mem_cons_of_mem _ h)
  have C0 : xCtx E p m c cX2_lowestSolution 3 s _ RX2 A yX2_lowestSolution cX2_lowestSolution 3 (some .int) := ⟨hx, hb, hml, hown, hts, hA, hK, hN⟩
  have hl : lv_has ls 3 [(0, .ref (E.2.1 (24 + 7 * j)))] := hl
  have B22 : ∀ (n : Nat) (a : xA) (x1 : Int32) (x2 : Int32) (H : Heap) (locs : List Loc) (ls : Array Slot), va_P E.1 vwCl (wX E g a) H → va_S A s.heap H locs → lv_has ls 3 [(0, .ref (E.2.1 (24 + 7 * j))), (1, .int x1), (2, .int x2)] → f_X2_lowestSolution_22 j g n a x1 x2 = some res → W p l e ({ frames := 14, cells := 0, slots := 0, locals := 324 }) s m ([.ref (E.2.1 (24 + 7 * j))] : List Value).toArray below meth c H locs 0 0 (MQ below ((xQi E res.1 (wX E g res.2)) A) ([.ref (E.2.1 (24 + 7 * j))] : List Value).toArray s 0 0 A) (F0 m 22 ls []) := by
    intro n
    induction n with
    | zero => intro a x1 x2 H locs ls hP hS hl hf; exact absurd (show (none : Option (Int32 × xA)) = some res from hf) (by intro h; cases h)
    | succ n ih =>
      intro a x1 x2 H locs ls hP hS hl hf
      replace hf := (e_X2_lowestSolution_22 j g n a x1 x2).symm.trans hf
      refine lv_iload_n hx hb dX2_lowestSolution_22 rfl (lv_at hl 2 rfl) ?_
      refine lv_if_lt (tgt := 51) hx hb dX2_lowestSolution_23 (by decide) (fun c6 => ?_) (fun c6 => ?_)
      · replace hf := (if_pos c6).symm.trans hf
        refine lv_iload_n hx hb dX2_lowestSolution_51 rfl (lv_at hl 1 rfl) ?_
        exact xi_retS (fr := (fun r => r.1)) (fw := (fun r => wX E g r.2)) hx hb hr hlocks (Option.some.inj hf) hP hS dX2_lowestSolution_52
      · replace hf := (if_neg c6).symm.trans hf
        refine lv_iload_n hx hb dX2_lowestSolution_26 rfl (lv_at hl 1 rfl) ?_
        refine lv_aload_n hx hb dX2_lowestSolution_27 rfl (lv_at hl 0 rfl) ?_
        refine va_get (C := RX2) (T := TX2) (N := 10) hx hb hw bfX20 hown hK hP (24 + 7 * j) (gx_inst E g a j hj) rfl 1 (by decide) (hw _ bw76) (fun _ h9 => h9) rfl dX2_lowestSolution_28 ?_
        refine va_get (C := RX4) (T := TX4) (N := 3) hx hb hw bfX40 hown hK hP 1 (gx_1 E g a) rfl 0 (by decide) (hw _ bw178) (fun _ h9 => h9) rfl dX2_lowestSolution_31 ?_
        refine lv_imul hx hb dX2_lowestSolution_34 ?_
        refine lv_aload_n hx hb dX2_lowestSolution_35 rfl (lv_at hl 0 rfl) ?_
        refine va_get (C := RX2) (T := TX2) (N := 10) hx hb hw bfX20 hown hK hP (24 + 7 * j) (gx_inst E g a j hj) rfl 9 (by decide) (hw _ bw75) (fun _ h9 => h9) rfl dX2_lowestSolution_36 ?_
        refine lv_iload_n hx hb dX2_lowestSolution_39 rfl (lv_at hl 2 rfl) ?_
        refine xci (xRunN (rest := [.int (x1 * (g 0))]) (As := [.ref (E.2.1 (30 + 7 * j)), .int x2]) (k := 2) C0 (c_at l E (wX E g a) (30 + 7 * j) x2 (gx_ia30 E g a j hj) (Nat.le_of_ble_eq_true rfl)) bw9 nw8 bw13 bw12 hd_X11_at ⟨Nat.le_of_ble_eq_true rfl, Nat.le_of_ble_eq_true rfl⟩ hP (wX_D hD) hS rfl hl.1 rfl (Nat.le_of_ble_eq_true rfl) dX2_lowestSolution_40 ⟨Nat.zero_le _, Nat.zero_le _⟩) hS (fun H locs hP hS => ?_)
        refine lv_iadd hx hb dX2_lowestSolution_43 ?_
        refine lv_istore_n (lv' := [(1, .int ((x1 * (g 0)) + (atF 6 (a (30 + 7 * j)) x2))), (0, .ref (E.2.1 (24 + 7 * j))), (2, .int x2)]) hx hb dX2_lowestSolution_44 rfl hl (by decide) rfl (fun ls hl => ?_)
        refine lv_iinc (v := (x2 + (-1))) (lv' := [(2, .int (x2 + (-1))), (1, .int ((x1 * (g 0)) + (atF 6 (a (30 + 7 * j)) x2))), (0, .ref (E.2.1 (24 + 7 * j)))]) hx hb dX2_lowestSolution_45 hl (k := 2) rfl rfl (by decide) rfl (fun ls hl => ?_)
        refine lv_goto (tgt := 22) hx hb dX2_lowestSolution_48 (by decide) ?_
        exact ih a ((x1 * (g 0)) + (atF 6 (a (30 + 7 * j)) x2)) (x2 + (-1)) _ _ _ hP hS (lv_sub hl [2, 1, 0] rfl) hf
  refine lv_aload_n hx hb dX2_lowestSolution_0 rfl (lv_at hl 0 rfl) ?_
  obtain ⟨u1, e2, hf⟩ := bd_some hf
  refine xcv (xRunV (rest := []) (As := []) (C := RX2) (k := 0) C0 (c_X2_allowAll l E j hj g a e2) bw170 bw210 bw86 bw196 bw197 hd_X2_allowAll ⟨Nat.le_of_ble_eq_true rfl, Nat.le_of_ble_eq_true rfl⟩ hP (wX_D hD) hS (va_recv hK hP (ci := 2) rfl (gx_inst E g a j hj)) rfl hl.1 rfl (Nat.le_of_ble_eq_true rfl) dX2_lowestSolution_1 ⟨Nat.zero_le _, Nat.zero_le _⟩) hS (fun H locs hP hS => ?_)
  refine lv_aload_n hx hb dX2_lowestSolution_4 rfl (lv_at hl 0 rfl) ?_
  obtain ⟨u3, e4, hf⟩ := bd_some hf
  refine xci (xRunV (rest := []) (As := []) (C := RX2) (k := 0) C0 (c_X2_hasSolution l E j hj g u1 e4) bw193 bw213 bw86 bw205 bw206 hd_X2_hasSolution ⟨Nat.le_of_ble_eq_true rfl, Nat.le_of_ble_eq_true rfl⟩ hP (wX_D hD) hS (va_recv hK hP (ci := 2) rfl (gx_inst E g u1 j hj)) rfl hl.1 rfl (Nat.le_of_ble_eq_true rfl) dX2_lowestSolution_5 ⟨Nat.zero_le _, Nat.zero_le _⟩) hS (fun H locs hP hS => ?_)
  refine lv_if_ne (tgt := 13) hx hb dX2_lowestSolution_8 (by decide) (fun c5 => ?_) (fun c5 => ?_)
  · replace hf := (if_neg c5).symm.trans hf
    refine lv_iconst (v := 0) hx hb dX2_lowestSolution_13 (by decide) ?_
    refine lv_istore_n (lv' := [(1, .int 0), (0, .ref (E.2.1 (24 + 7 * j)))]) hx hb dX2_lowestSolution_14 rfl hl (by decide) rfl (fun ls hl => ?_)
    refine lv_aload_n hx hb dX2_lowestSolution_15 rfl (lv_at hl 1 rfl) ?_
    refine va_get (C := RX2) (T := TX2) (N := 10) hx hb hw bfX20 hown hK hP (24 + 7 * j) (gx_inst E g u3.2 j hj) rfl 3 (by decide) (hw _ bw91) (fun _ h9 => h9) rfl dX2_lowestSolution_16 ?_
    refine lv_iconst (v := 1) hx hb dX2_lowestSolution_19 (by decide) ?_
    refine lv_isub hx hb dX2_lowestSolution_20 ?_
    refine lv_istore_n (lv' := [(2, .int ((g (12 + 2 * j)) - 1)), (1, .int 0), (0, .ref (E.2.1 (24 + 7 * j)))]) hx hb dX2_lowestSolution_21 rfl hl (by decide) rfl (fun ls hl => ?_)
    exact B22 fu u3.2 0 ((g (12 + 2 * j)) - 1) _ _ _ hP hS (lv_sub hl [2, 1, 0] rfl) hf
  · replace hf := (if_pos c5).symm.trans hf
    refine lv_iconst (v := (-1)) hx hb dX2_lowestSolution_11 (by decide) ?_
    exact xi_retS (fr := (fun r => r.1)) (fw := (fun r => wX E g r.2)) hx hb hr hlocks (Option.some.inj hf) hP hS dX2_lowestSolution_12
def f_X2_holdsEverywhere_2 (j : Nat) (g : xG) (a : xA) : Nat → Int32 → Option (Int32)
  | 0, _ => none
  | n + 1, x1 => (if (g (11 + 2 * j)) ≤ x1 then some 1 else Option.bind (f_X2_holds j g a x1) (fun u2 => (if u2 = 0 then some 0 else f_X2_holdsEverywhere_2 j g a n (x1 + 1))))
theorem e_X2_holdsEverywhere_2 (j : Nat) (g : xG) (a : xA) (n : Nat) (x1 : Int32) : f_X2_holdsEverywhere_2 j g a (n + 1) x1 = (if (g (11 + 2 * j)) ≤ x1 then some 1 else Option.bind (f_X2_holds j g a x1) (fun u2 => (if u2 = 0 then some 0 else f_X2_holdsEverywhere_2 j g a n (x1 + 1)))) := rfl
def f_X2_holdsEverywhere (j : Nat) (g : xG) (a : xA) : Option (Int32) := f_X2_holdsEverywhere_2 j g a fu 0
set_option maxRecDepth 100000 in
set_option maxHeartbeats 40000000 in
theorem c_X2_holdsEverywhere (l : Launch) (E : xE) (j : Nat) (hj : j < 2) (g : xG) (a : xA) {res : Int32} (hf : f_X2_holdsEverywhere j g a = some res) : xM l E yX2_holdsEverywhere cX2_holdsEverywhere 2 (some .boolean) 3 66 [.ref (E.2.1 (24 + 7 * j))] (wX E g a) (xQi E res (wX E g a)) := by
  unfold f_X2_holdsEverywhere at hf
  refine xM_of (by decide) (Nat.le_of_ble_eq_true rfl) ?_
  intro p e s m below meth c A hx hb hr hml hts hown hlocks hA hD hP hK hN hS ls hl
  have hw : ∀ w ∈ BW, w.before _ s = true := fun w h => hts w (List.mem_cons_of_mem _ h)
  have C0 : xCtx E p m c cX2_holdsEverywhere 2 s _ RX2 A yX2_holdsEverywhere cX2_holdsEverywhere 2 (some .boolean) := ⟨hx, hb, hml, hown, hts, hA, hK, hN⟩
  have hl : lv_has ls 2 [(0, .ref (E.2.1 (24 + 7 * j)))] := hl
  have B2 : ∀ (n : Nat) (x1 : Int32) (H : Heap) (locs : List Loc) (ls : Array Slot), va_P E.1 vwCl (wX E g a) H → va_S A s.heap H locs → lv_has ls 2 [(0, .ref (E.2.1 (24 + 7 * j))), (1, .int x1)] → f_X2_holdsEverywhere_2 j g a n x1 = some res → W p l e ({ frames := 3, cells := 0, slots := 0, locals := 66 }) s m ([.ref (E.2.1 (24 + 7 * j))] : List Value).toArray below meth c H locs 0 0 (MQ below ((xQi E res (wX E g a)) A) ([.ref (E.2.1 (24 + 7 * j))] : List Value).toArray s 0 0 A) (F0 m 2 ls []) := by
    intro n
    induction n with
    | zero => intro x1 H locs ls hP hS hl hf; exact absurd (show (none : Option (Int32)) = some res from hf) (by intro h; cases h)
    | succ n ih =>
      intro x1 H locs ls hP hS hl hf
      replace hf := (e_X2_holdsEverywhere_2 j g a n x1).symm.trans hf
      refine lv_iload_n hx hb dX2_holdsEverywhere_2 rfl (lv_at hl 1 rfl) ?_
      refine lv_aload_n hx hb dX2_holdsEverywhere_3 rfl (lv_at hl 0 rfl) ?_
      refine va_get (C := RX2) (T := TX2) (N := 10) hx hb hw bfX20 hown hK hP (24 + 7 * j) (gx_inst E g a j hj) rfl 0 (by decide) (hw _ bw92) (fun _ h9 => h9) rfl dX2_holdsEverywhere_4 ?_
      refine lv_icmp_ge (tgt := 26) hx hb dX2_holdsEverywhere_7 (by decide) (fun c1 => ?_) (fun c1 => ?_)
      · replace hf := (if_pos c1).symm.trans hf
        refine lv_iconst (v := 1) hx hb dX2_holdsEverywhere_26 (by decide) ?_
        exact xz_retS (fr := (fun r => r)) (fw := (fun r => wX E g a)) hx hb hr hlocks (Option.some.inj hf) nz1 hP hS dX2_holdsEverywhere_27
      · replace hf := (if_neg c1).symm.trans hf
        refine lv_aload_n hx hb dX2_holdsEverywhere_10 rfl (lv_at hl 0 rfl) ?_
        refine lv_iload_n hx hb dX2_holdsEverywhere_11 rfl (lv_at hl 1 rfl) ?_
        obtain ⟨u2, e3, hf⟩ := bd_some hf
        refine xci (xRunV (rest := []) (As := [.int x1]) (C := RX2) (k := 1) C0 (c_X2_holds l E j hj g a x1 e3) bw182 bw183 bw86 bw184 bw185 hd_X2_holds ⟨Nat.le_of_ble_eq_true rfl, Nat.le_of_ble_eq_true rfl⟩ hP (wX_D hD) hS (va_recv hK hP (ci := 2) rfl (gx_inst E g a j hj)) rfl hl.1 rfl (Nat.le_of_ble_eq_true rfl) dX2_holdsEverywhere_12 ⟨Nat.zero_le _, Nat.zero_le _⟩) hS (fun H locs hP hS => ?_)
        refine lv_if_ne (tgt := 20) hx hb dX2_holdsEverywhere_15 (by decide) (fun c4 => ?_) (fun c4 => ?_)
        · replace hf := (if_neg c4).symm.trans hf
          refine lv_iinc (v := (x1 + 1)) (lv' := [(1, .int (x1 + 1)), (0, .ref (E.2.1 (24 + 7 * j)))]) hx hb dX2_holdsEverywhere_20 hl (k := 1) rfl rfl (by decide) rfl (fun ls hl => ?_)
          refine lv_goto (tgt := 2) hx hb dX2_holdsEverywhere_23 (by decide) ?_
          exact ih (x1 + 1) _ _ _ hP hS (lv_sub hl [1, 0] rfl) hf
        · replace hf := (if_pos c4).symm.trans hf
          refine lv_iconst (v := 0) hx hb dX2_holdsEverywhere_18 (by decide) ?_
          exact xz_retS (fr := (fun r => r)) (fw := (fun r => wX E g a)) hx hb hr hlocks (Option.some.inj hf) nz0 hP hS dX2_holdsEverywhere_19
  refine lv_iconst (v := 0) hx hb dX2_holdsEverywhere_0 (by decide) ?_
  refine lv_istore_n (lv' := [(1, .int 0), (0, .ref (E.2.1 (24 + 7 * j)))]) hx hb dX2_holdsEverywhere_1 rfl hl (by decide) rfl (fun ls hl => ?_)
  exact B2 fu 0 _ _ _ hP hS (lv_sub hl [1, 0] rfl) hf
def f_X2_stepOn_2 (j : Nat) (g : xG) : Nat → xA → Int32 → Option (xA)
  | 0, _, _ => none
  | n + 1, a, x1 => (if (g (12 + 2 * j)) ≤ x1 then some a else (if (g 0) ≤ ((atF 6 (a (30 + 7 * j)) x1) + 1) then f_X2_stepOn_2 j g n (upA a (30 + 7 * j) (putF 6 (a (30 + 7 * j)) x1 0)) (x1 + 1) else some (upA a (30 + 7 * j) (putF 6 (a (30 + 7 * j)) x1 ((atF 6 (a (30 + 7 * j)) x1) + 1)))))
theorem e_X2_stepOn_2 (j : Nat) (g : xG) (n : Nat) (a : xA) (x1 : Int32) : f_X2_stepOn_2 j g (n + 1) a x1 = (if (g (12 + 2 * j)) ≤ x1 then some a else (if (g 0) ≤ ((atF 6 (a (30 + 7 * j)) x1) + 1) then f_X2_stepOn_2 j g n (upA a (30 + 7 * j) (putF 6 (a (30 + 7 * j)) x1 0)) (x1 + 1) else some (upA a (30 + 7 * j) (putF 6 (a (30 + 7 * j)) x1 ((atF 6 (a (30 + 7 * j)) x1) + 1))))) := rfl
def f_X2_stepOn (j : Nat) (g : xG) (a : xA) : Option (xA) := f_X2_stepOn_2 j g fu a 0
set_option maxRecDepth 100000 in
set_option maxHeartbeats 40000000 in
theorem c_X2_stepOn (l : Launch) (E : xE) (j : Nat) (hj : j < 2) (g : xG) (a : xA) {res : xA} (hf : f_X2_stepOn j g a = some res) : xM l E yX2_stepOn cX2_stepOn 3 none 1 22 [.ref (E.2.1 (24 + 7 * j))] (wX E g a) (xQv E (wX E g res)) := by
  unfold f_X2_stepOn at hf
  refine xM_of (by decide) (Nat.le_of_ble_eq_true rfl) ?_
  intro p e s m below meth c A hx hb hr hml hts hown hlocks hA hD hP hK hN hS ls hl
  have hw : ∀ w ∈ BW, w.before _ s = true := fun w h => hts w (List.mem_cons_of_mem _ h)
  have C0 : xCtx E p m c cX2_stepOn 3 s _ RX2 A yX2_stepOn cX2_stepOn 3 none := ⟨hx, hb, hml, hown, hts, hA, hK, hN⟩
  have hl : lv_has ls 3 [(0, .ref (E.2.1 (24 + 7 * j)))] := hl
  have B2 : ∀ (n : Nat) (a : xA) (x1 : Int32) (H : Heap) (locs : List Loc) (ls : Array Slot), va_P E.1 vwCl (wX E g a) H → va_S A s.heap H locs → lv_has ls 3 [(0, .ref (E.2.1 (24 + 7 * j))), (1, .int x1)] → f_X2_stepOn_2 j g n a x1 = some res → W p l e ({ frames := 1, cells := 0, slots := 0, locals := 22 }) s m ([.ref (E.2.1 (24 + 7 * j))] : List Value).toArray below meth c H locs 0 0 (MQ below ((xQv E (wX E g res)) A) ([.ref (E.2.1 (24 + 7 * j))] : List Value).toArray s 0 0 A) (F0 m 2 ls []) := by
    intro n
    induction n with
    | zero => intro a x1 H locs ls hP hS hl hf; exact absurd (show (none : Option (xA)) = some res from hf) (by intro h; cases h)
    | succ n ih =>
      intro a x1 H locs ls hP hS hl hf
      replace hf := (e_X2_stepOn_2 j g n a x1).symm.trans hf
      refine lv_iload_n hx hb dX2_stepOn_2 rfl (lv_at hl 1 rfl) ?_
      refine lv_aload_n hx hb dX2_stepOn_3 rfl (lv_at hl 0 rfl) ?_
      refine va_get (C := RX2) (T := TX2) (N := 10) hx hb hw bfX20 hown hK hP (24 + 7 * j) (gx_inst E g a j hj) rfl 3 (by decide) (hw _ bw91) (fun _ h9 => h9) rfl dX2_stepOn_4 ?_
      refine lv_icmp_ge (tgt := 57) hx hb dX2_stepOn_7 (by decide) (fun c1 => ?_) (fun c1 => ?_)
      · replace hf := (if_pos c1).symm.trans hf
        exact xv_retS (fw := (fun r => wX E g r)) hx hb hr hlocks (Option.some.inj hf) hP hS dX2_stepOn_57
      · replace hf := (if_neg c1).symm.trans hf
        refine lv_aload_n hx hb dX2_stepOn_10 rfl (lv_at hl 0 rfl) ?_
        refine va_get (C := RX2) (T := TX2) (N := 10) hx hb hw bfX20 hown hK hP (24 + 7 * j) (gx_inst E g a j hj) rfl 9 (by decide) (hw _ bw75) (fun _ h9 => h9) rfl dX2_stepOn_11 ?_
        refine lv_iload_n hx hb dX2_stepOn_14 rfl (lv_at hl 1 rfl) ?_
        refine xci (xRunN (rest := []) (As := [.ref (E.2.1 (30 + 7 * j)), .int x1]) (k := 2) C0 (c_at l E (wX E g a) (30 + 7 * j) x1 (gx_ia30 E g a j hj) (Nat.le_of_ble_eq_true rfl)) bw9 nw8 bw13 bw12 hd_X11_at ⟨Nat.le_of_ble_eq_true rfl, Nat.le_of_ble_eq_true rfl⟩ hP (wX_D hD) hS rfl hl.1 rfl (Nat.le_of_ble_eq_true rfl) dX2_stepOn_15 ⟨Nat.zero_le _, Nat.zero_le _⟩) hS (fun H locs hP hS => ?_)
        refine lv_iconst (v := 1) hx hb dX2_stepOn_18 (by decide) ?_
        refine lv_iadd hx hb dX2_stepOn_19 ?_
        refine lv_istore_n (lv' := [(2, .int ((atF 6 (a (30 + 7 * j)) x1) + 1)), (0, .ref (E.2.1 (24 + 7 * j))), (1, .int x1)]) hx hb dX2_stepOn_20 rfl hl (by decide) rfl (fun ls hl => ?_)
        refine lv_iload_n hx hb dX2_stepOn_21 rfl (lv_at hl 0 rfl) ?_
        refine lv_aload_n hx hb dX2_stepOn_22 rfl (lv_at hl 1 rfl) ?_
        refine va_get (C := RX2) (T := TX2) (N := 10) hx hb hw bfX20 hown hK hP (24 + 7 * j) (gx_inst E g a j hj) rfl 1 (by decide) (hw _ bw76) (fun _ h9 => h9) rfl dX2_stepOn_23 ?_
        refine va_get (C := RX4) (T := TX4) (N := 3) hx hb hw bfX40 hown hK hP 1 (gx_1 E g a) rfl 0 (by decide) (hw _ bw178) (fun _ h9 => h9) rfl dX2_stepOn_26 ?_
        refine lv_icmp_ge (tgt := 42) hx hb dX2_stepOn_29 (by decide) (fun c2 => ?_) (fun c2 => ?_)
        · replace hf := (if_pos c2).symm.trans hf
          refine lv_aload_n hx hb dX2_stepOn_42 rfl (lv_at hl 1 rfl) ?_
          refine va_get (C := RX2) (T := TX2) (N := 10) hx hb hw bfX20 hown hK hP (24 + 7 * j) (gx_inst E g a j hj) rfl 9 (by decide) (hw _ bw75) (fun _ h9 => h9) rfl dX2_stepOn_43 ?_
          refine lv_iload_n hx hb dX2_stepOn_46 rfl (lv_at hl 2 rfl) ?_
          refine lv_iconst (v := 0) hx hb dX2_stepOn_47 (by decide) ?_
          refine xcv (xRunN (rest := []) (As := [.ref (E.2.1 (30 + 7 * j)), .int x1, .int 0]) (k := 3) C0 (c_put l E (wX E g a) (30 + 7 * j) x1 0 (gx_ia30 E g a j hj) (Nat.le_of_ble_eq_true rfl) (sx_ia30 E g a j hj (putF 6 (a (30 + 7 * j)) x1 0))) bw14 nw7 bw13 bw23 hd_X11_put ⟨Nat.le_of_ble_eq_true rfl, Nat.le_of_ble_eq_true rfl⟩ hP (wX_D hD) hS rfl hl.1 rfl (Nat.le_of_ble_eq_true rfl) dX2_stepOn_48 ⟨Nat.zero_le _, Nat.zero_le _⟩) hS (fun H locs hP hS => ?_)
          refine lv_iinc (v := (x1 + 1)) (lv' := [(1, .int (x1 + 1)), (2, .int ((atF 6 (a (30 + 7 * j)) x1) + 1)), (0, .ref (E.2.1 (24 + 7 * j)))]) hx hb dX2_stepOn_51 hl (k := 2) rfl rfl (by decide) rfl (fun ls hl => ?_)
          refine lv_goto (tgt := 2) hx hb dX2_stepOn_54 (by decide) ?_
          exact ih (upA a (30 + 7 * j) (putF 6 (a (30 + 7 * j)) x1 0)) (x1 + 1) _ _ _ hP hS (lv_sub hl [2, 0] rfl) hf
        · replace hf := (if_neg c2).symm.trans hf
          refine lv_aload_n hx hb dX2_stepOn_32 rfl (lv_at hl 1 rfl) ?_
          refine va_get (C := RX2) (T := TX2) (N := 10) hx hb hw bfX20 hown hK hP (24 + 7 * j) (gx_inst E g a j hj) rfl 9 (by decide) (hw _ bw75) (fun _ h9 => h9) rfl dX2_stepOn_33 ?_
          refine lv_iload_n hx hb dX2_stepOn_36 rfl (lv_at hl 2 rfl) ?_
          refine lv_iload_n hx hb dX2_stepOn_37 rfl (lv_at hl 0 rfl) ?_
          refine xcv (xRunN (rest := []) (As := [.ref (E.2.1 (30 + 7 * j)), .int x1, .int ((atF 6 (a (30 + 7 * j)) x1) + 1)]) (k := 3) C0 (c_put l E (wX E g a) (30 + 7 * j) x1 ((atF 6 (a (30 + 7 * j)) x1) + 1) (gx_ia30 E g a j hj) (Nat.le_of_ble_eq_true rfl) (sx_ia30 E g a j hj (putF 6 (a (30 + 7 * j)) x1 ((atF 6 (a (30 + 7 * j)) x1) + 1)))) bw14 nw7 bw13 bw23 hd_X11_put ⟨Nat.le_of_ble_eq_true rfl, Nat.le_of_ble_eq_true rfl⟩ hP (wX_D hD) hS rfl hl.1 rfl (Nat.le_of_ble_eq_true rfl) dX2_stepOn_38 ⟨Nat.zero_le _, Nat.zero_le _⟩) hS (fun H locs hP hS => ?_)
          exact xv_retS (fw := (fun r => wX E g r)) hx hb hr hlocks (Option.some.inj hf) hP hS dX2_stepOn_41
  refine lv_iconst (v := 0) hx hb dX2_stepOn_0 (by decide) ?_
  refine lv_istore_n (lv' := [(1, .int 0), (0, .ref (E.2.1 (24 + 7 * j)))]) hx hb dX2_stepOn_1 rfl hl (by decide) rfl (fun ls hl => ?_)
  exact B2 fu a 0 _ _ _ hP hS (lv_sub hl [1, 0] rfl) hf
def f_X2_countByTryingAll_52 (j : Nat) (g : xG) (K38 : xA → Int32 → Int32 → Option (Int32 × xA)) (a : xA) (x1 : Int32) (x2 : Int32) : Option (Int32 × xA) := Option.bind (f_X2_stepOn j g a) (fun u7 => K38 u7 x1 (x2 + (-1)))
def f_X2_countByTryingAll_38 (j : Nat) (g : xG) : Nat → xA → Int32 → Int32 → Option (Int32 × xA)
  | 0, _, _, _ => none
  | n + 1, a, x1, x2 => (if x2 ≤ 0 then some (x1, a) else Option.bind (f_X2_holdsEverywhere j g a) (fun u4 => (if u4 = 0 then f_X2_countByTryingAll_52 j g (f_X2_countByTryingAll_38 j g n) a x1 x2 else f_X2_countByTryingAll_52 j g (f_X2_countByTryingAll_38 j g n) a (x1 + 1) x2)))
theorem e_X2_countByTryingAll_38 (j : Nat) (g : xG) (n : Nat) (a : xA) (x1 : Int32) (x2 : Int32) : f_X2_countByTryingAll_38 j g (n + 1) a x1 x2 = (if x2 ≤ 0 then some (x1, a) else Option.bind (f_X2_holdsEverywhere j g a) (fun u4 => (if u4 = 0 then f_X2_countByTryingAll_52 j g (f_X2_countByTryingAll_38 j g n) a x1 x2 else f_X2_countByTryingAll_52 j g (f_X2_countByTryingAll_38 j g n) a (x1 + 1) x2))) := rfl
def f_X2_countByTryingAll_2 (j : Nat) (g : xG) : Nat → xA → Int32 → Option (Int32 × xA)
  | 0, _, _ => none
  | n + 1, a, x1 => (if 6 ≤ x1 then f_X2_countByTryingAll_38 j g fu a 0 (t_X4_power g a (g (12 + 2 * j))) else ck (inB x1 6) (f_X2_countByTryingAll_2 j g n (upA a (30 + 7 * j) (upd (a (30 + 7 * j)) (x1 : Int32).toNatClampNeg 0)) (x1 + 1)))
theorem e_X2_countByTryingAll_2 (j : Nat) (g : xG) (n : Nat) (a : xA) (x1 : Int32) : f_X2_countByTryingAll_2 j g (n + 1) a x1 = (if 6 ≤ x1 then f_X2_countByTryingAll_38 j g fu a 0 (t_X4_power g a (g (12 + 2 * j))) else ck (inB x1 6) (f_X2_countByTryingAll_2 j g n (upA a (30 + 7 * j) (upd (a (30 + 7 * j)) (x1 : Int32).toNatClampNeg 0)) (x1 + 1))) := rfl
def f_X2_countByTryingAll (j : Nat) (g : xG) (a : xA) : Option (Int32 × xA) := f_X2_countByTryingAll_2 j g fu a 0
set_option maxRecDepth 100000 in
set_option maxHeartbeats 40000000 in
theorem c_X2_countByTryingAll (l : Launch) (E : xE) (j : Nat) (hj : j < 2) (g : xG) (a : xA) {res : Int32 × xA} (hf : f_X2_countByTryingAll j g a = some res) : xM l E yX2_countByTryingAll cX2_countByTryingAll 3 (some .int) 4 87 [.ref (E.2.1 (24 + 7 * j))] (wX E g a) (xQi E res.1 (wX E g res.2)) := by
  unfold f_X2_countByTryingAll at hf
  refine xM_of (by decide) (Nat.le_of_ble_eq_true rfl) ?_
  intro p e s m below meth c A hx hb hr hml hts hown hlocks hA hD hP hK hN hS ls hl
  have hw : ∀ w ∈ BW, w.before _ s = true := fun w h => hts w (List.mem_cons_of_mem _ h)
  have C0 : xCtx E p m c cX2_countByTryingAll 3 s _ RX2 A yX2_countByTryingAll cX2_countByTryingAll 3 (some .int) := ⟨hx, hb, hml, hown, hts, hA, hK, hN⟩
  have hl : lv_has ls 3 [(0, .ref (E.2.1 (24 + 7 * j)))] := hl
  have B52 : ∀ (K38 : xA → Int32 → Int32 → Option (Int32 × xA)) (hK38 : ∀ (a : xA) (x1 : Int32) (x2 : Int32) (H : Heap) (locs : List Loc) (ls : Array Slot), va_P E.1 vwCl (wX E g a) H → va_S A s.heap H locs → lv_has ls 3 [(0, .ref (E.2.1 (24 + 7 * j))), (1, .int x1), (2, .int x2)] → K38 a x1 x2 = some res → W p l e ({ frames := 4, cells := 0, slots := 0, locals := 87 }) s m ([.ref (E.2.1 (24 + 7 * j))] : List Value).toArray below meth c H locs 0 0 (MQ below ((xQi E res.1 (wX E g res.2)) A) ([.ref (E.2.1 (24 + 7 * j))] : List Value).toArray s 0 0 A) (F0 m 38 ls [])) (a : xA) (x1 : Int32) (x2 : Int32) (H : Heap) (locs : List Loc) (ls : Array Slot), va_P E.1 vwCl (wX E g a) H → va_S A s.heap H locs → lv_has ls 3 [(0, .ref (E.2.1 (24 + 7 * j))), (1, .int x1), (2, .int x2)] → f_X2_countByTryingAll_52 j g K38 a x1 x2 = some res → W p l e ({ frames := 4, cells := 0, slots := 0, locals := 87 }) s m ([.ref (E.2.1 (24 + 7 * j))] : List Value).toArray below meth c H locs 0 0 (MQ below ((xQi E res.1 (wX E g res.2)) A) ([.ref (E.2.1 (24 + 7 * j))] : List Value).toArray s 0 0 A) (F0 m 52 ls []) := by
    intro K38 hK38 a x1 x2 H locs ls hP hS hl hf
    unfold f_X2_countByTryingAll_52 at hf
    refine lv_aload_n hx hb dX2_countByTryingAll_52 rfl (lv_at hl 0 rfl) ?_
    obtain ⟨u7, e8, hf⟩ := bd_some hf
    refine xcv (xRunV (rest := []) (As := []) (C := RX2) (k := 0) C0 (c_X2_stepOn l E j hj g a e8) bw216 bw220 bw86 bw221 bw222 hd_X2_stepOn ⟨Nat.le_of_ble_eq_true rfl, Nat.le_of_ble_eq_true rfl⟩ hP (wX_D hD) hS (va_recv hK hP (ci := 2) rfl (gx_inst E g a j hj)) rfl hl.1 rfl (Nat.le_of_ble_eq_true rfl) dX2_countByTryingAll_53 ⟨Nat.zero_le _, Nat.zero_le _⟩) hS (fun H locs hP hS => ?_)
    refine lv_iinc (v := (x2 + (-1))) (lv' := [(2, .int (x2 + (-1))), (0, .ref (E.2.1 (24 + 7 * j))), (1, .int x1)]) hx hb dX2_countByTryingAll_56 hl (k := 2) rfl rfl (by decide) rfl (fun ls hl => ?_)
    refine lv_goto (tgt := 38) hx hb dX2_countByTryingAll_59 (by decide) ?_
    exact hK38 u7 x1 (x2 + (-1)) _ _ _ hP hS (lv_sub hl [1, 2, 0] rfl) hf
  have B38 : ∀ (n : Nat) (a : xA) (x1 : Int32) (x2 : Int32) (H : Heap) (locs : List Loc) (ls : Array Slot), va_P E.1 vwCl (wX E g a) H → va_S A s.heap H locs → lv_has ls 3 [(0, .ref (E.2.1 (24 + 7 * j))), (1, .int x1), (2, .int x2)] → f_X2_countByTryingAll_38 j g n a x1 x2 = some res → W p l e ({ frames := 4, cells := 0, slots := 0, locals := 87 }) s m ([.ref (E.2.1 (24 + 7 * j))] : List Value).toArray below meth c H locs 0 0 (MQ below ((xQi E res.1 (wX E g res.2)) A) ([.ref (E.2.1 (24 + 7 * j))] : List Value).toArray s 0 0 A) (F0 m 38 ls []) := by
    intro n
    induction n with
    | zero => intro a x1 x2 H locs ls hP hS hl hf; exact absurd (show (none : Option (Int32 × xA)) = some res from hf) (by intro h; cases h)
    | succ n ih =>
      intro a x1 x2 H locs ls hP hS hl hf
      replace hf := (e_X2_countByTryingAll_38 j g n a x1 x2).symm.trans hf
      refine lv_iload_n hx hb dX2_countByTryingAll_38 rfl (lv_at hl 2 rfl) ?_
      refine lv_if_le (tgt := 62) hx hb dX2_countByTryingAll_39 (by decide) (fun c3 => ?_) (fun c3 => ?_)
      · replace hf := (if_pos c3).symm.trans hf
        refine lv_iload_n hx hb dX2_countByTryingAll_62 rfl (lv_at hl 1 rfl) ?_
        exact xi_retS (fr := (fun r => r.1)) (fw := (fun r => wX E g r.2)) hx hb hr hlocks (Option.some.inj hf) hP hS dX2_countByTryingAll_63
      · replace hf := (if_neg c3).symm.trans hf
        refine lv_aload_n hx hb dX2_countByTryingAll_42 rfl (lv_at hl 0 rfl) ?_
        obtain ⟨u4, e5, hf⟩ := bd_some hf
        refine xci (xRunV (rest := []) (As := []) (C := RX2) (k := 0) C0 (c_X2_holdsEverywhere l E j hj g a e5) bw215 bw217 bw86 bw218 bw219 hd_X2_holdsEverywhere ⟨Nat.le_of_ble_eq_true rfl, Nat.le_of_ble_eq_true rfl⟩ hP (wX_D hD) hS (va_recv hK hP (ci := 2) rfl (gx_inst E g a j hj)) rfl hl.1 rfl (Nat.le_of_ble_eq_true rfl) dX2_countByTryingAll_43 ⟨Nat.zero_le _, Nat.zero_le _⟩) hS (fun H locs hP hS => ?_)
        refine lv_if_eq (tgt := 52) hx hb dX2_countByTryingAll_46 (by decide) (fun c6 => ?_) (fun c6 => ?_)
        · replace hf := (if_pos c6).symm.trans hf
          exact B52 (f_X2_countByTryingAll_38 j g n) ih a x1 x2 _ _ _ hP hS (lv_sub hl [0, 1, 2] rfl) hf
        · replace hf := (if_neg c6).symm.trans hf
          refine lv_iinc (v := (x1 + 1)) (lv' := [(1, .int (x1 + 1)), (0, .ref (E.2.1 (24 + 7 * j))), (2, .int x2)]) hx hb dX2_countByTryingAll_49 hl (k := 1) rfl rfl (by decide) rfl (fun ls hl => ?_)
          exact B52 (f_X2_countByTryingAll_38 j g n) ih a (x1 + 1) x2 _ _ _ hP hS (lv_sub hl [1, 0, 2] rfl) hf
  have B2 : ∀ (n : Nat) (a : xA) (x1 : Int32) (H : Heap) (locs : List Loc) (ls : Array Slot), va_P E.1 vwCl (wX E g a) H → va_S A s.heap H locs → lv_has ls 3 [(0, .ref (E.2.1 (24 + 7 * j))), (1, .int x1)] → f_X2_countByTryingAll_2 j g n a x1 = some res → W p l e ({ frames := 4, cells := 0, slots := 0, locals := 87 }) s m ([.ref (E.2.1 (24 + 7 * j))] : List Value).toArray below meth c H locs 0 0 (MQ below ((xQi E res.1 (wX E g res.2)) A) ([.ref (E.2.1 (24 + 7 * j))] : List Value).toArray s 0 0 A) (F0 m 2 ls []) := by
    intro n
    induction n with
    | zero => intro a x1 H locs ls hP hS hl hf; exact absurd (show (none : Option (Int32 × xA)) = some res from hf) (by intro h; cases h)
    | succ n ih =>
      intro a x1 H locs ls hP hS hl hf
      replace hf := (e_X2_countByTryingAll_2 j g n a x1).symm.trans hf
      refine lv_iload_n hx hb dX2_countByTryingAll_2 rfl (lv_at hl 1 rfl) ?_
      refine lv_aload_n hx hb dX2_countByTryingAll_3 rfl (lv_at hl 0 rfl) ?_
      refine va_get (C := RX2) (T := TX2) (N := 10) hx hb hw bfX20 hown hK hP (24 + 7 * j) (gx_inst E g a j hj) rfl 9 (by decide) (hw _ bw75) (fun _ h9 => h9) rfl dX2_countByTryingAll_4 ?_
      refine va_alen (v := 6) hx hb hK hP (30 + 7 * j) 0 (gx_ia30 E g a j hj) rfl rfl dX2_countByTryingAll_7 ?_
      refine lv_icmp_ge (tgt := 24) hx hb dX2_countByTryingAll_8 (by decide) (fun c1 => ?_) (fun c1 => ?_)
      · replace hf := (if_pos c1).symm.trans hf
        refine lv_iconst (v := 0) hx hb dX2_countByTryingAll_24 (by decide) ?_
        refine lv_istore_n (lv' := [(1, .int 0), (0, .ref (E.2.1 (24 + 7 * j)))]) hx hb dX2_countByTryingAll_25 rfl hl (by decide) rfl (fun ls hl => ?_)
        refine lv_aload_n hx hb dX2_countByTryingAll_26 rfl (lv_at hl 1 rfl) ?_
        refine va_get (C := RX2) (T := TX2) (N := 10) hx hb hw bfX20 hown hK hP (24 + 7 * j) (gx_inst E g a j hj) rfl 1 (by decide) (hw _ bw76) (fun _ h9 => h9) rfl dX2_countByTryingAll_27 ?_
        refine lv_aload_n hx hb dX2_countByTryingAll_30 rfl (lv_at hl 1 rfl) ?_
        refine va_get (C := RX2) (T := TX2) (N := 10) hx hb hw bfX20 hown hK hP (24 + 7 * j) (gx_inst E g a j hj) rfl 3 (by decide) (hw _ bw91) (fun _ h9 => h9) rfl dX2_countByTryingAll_31 ?_
        refine xci (xRunV (rest := []) (As := [.int (g (12 + 2 * j))]) (C := RX4) (k := 1) C0 (c_X4_power l E g a (g (12 + 2 * j))) bw55 bw211 bw22 bw58 bw59 hd_X4_power ⟨Nat.le_of_ble_eq_true rfl, Nat.le_of_ble_eq_true rfl⟩ hP (wX_D hD) hS (va_recv hK hP (ci := 4) rfl (gx_1 E g a)) rfl hl.1 rfl (Nat.le_of_ble_eq_true rfl) dX2_countByTryingAll_34 ⟨Nat.zero_le _, Nat.zero_le _⟩) hS (fun H locs hP hS => ?_)
        refine lv_istore_n (lv' := [(2, .int (t_X4_power g a (g (12 + 2 * j)))), (1, .int 0), (0, .ref (E.2.1 (24 + 7 * j)))]) hx hb dX2_countByTryingAll_37 rfl hl (by decide) rfl (fun ls hl => ?_)
        exact B38 fu a 0 (t_X4_power g a (g (12 + 2 * j))) _ _ _ hP hS (lv_sub hl [2, 1, 0] rfl) hf
      · replace hf := (if_neg c1).symm.trans hf
        refine lv_aload_n hx hb dX2_countByTryingAll_11 rfl (lv_at hl 0 rfl) ?_
        refine va_get (C := RX2) (T := TX2) (N := 10) hx hb hw bfX20 hown hK hP (24 + 7 * j) (gx_inst E g a j hj) rfl 9 (by decide) (hw _ bw75) (fun _ h9 => h9) rfl dX2_countByTryingAll_12 ?_
        refine lv_iload_n hx hb dX2_countByTryingAll_15 rfl (lv_at hl 1 rfl) ?_
        refine lv_iconst (v := 0) hx hb dX2_countByTryingAll_16 (by decide) ?_
        obtain ⟨k2, hf⟩ := ck_some hf
        refine va_iast hx hb hK hP (wX_D hD) hS (30 + 7 * j) 0 (gx_ia30 E g a j hj) rfl (inB_in k2) dX2_countByTryingAll_17 (fun H locs hP _ hS => ?_)
        have hP := xP_eq (sx_ia30 E g a j hj (upd (a (30 + 7 * j)) (x1 : Int32).toNatClampNeg 0)) hP
        refine lv_iinc (v := (x1 + 1)) (lv' := [(1, .int (x1 + 1)), (0, .ref (E.2.1 (24 + 7 * j)))]) hx hb dX2_countByTryingAll_18 hl (k := 1) rfl rfl (by decide) rfl (fun ls hl => ?_)
        refine lv_goto (tgt := 2) hx hb dX2_countByTryingAll_21 (by decide) ?_
        exact ih (upA a (30 + 7 * j) (upd (a (30 + 7 * j)) (x1 : Int32).toNatClampNeg 0)) (x1 + 1) _ _ _ hP hS (lv_sub hl [1, 0] rfl) hf
  refine lv_iconst (v := 0) hx hb dX2_countByTryingAll_0 (by decide) ?_
  refine lv_istore_n (lv' := [(1, .int 0), (0, .ref (E.2.1 (24 + 7 * j)))]) hx hb dX2_countByTryingAll_1 rfl hl (by decide) rfl (fun ls hl => ?_)
  exact B2 fu a 0 _ _ _ hP hS (lv_sub hl [1, 0] rfl) hf
def f_X2_isLikeOnLike_14 (j : Nat) (g : xG) (a : xA) (K2 : Int32 → Int32 → Int32 → Option (Int32)) : Nat → Int32 → Int32 → Int32 → Int32 → Option (Int32)
  | 0, _, _, _, _ => none
  | n + 1, x1, x2, x3, x4 => (if x3 ≤ x4 then K2 x1 x2 (x3 + 1) else (if (t_X2_variableOn j g a x1 x3) = (t_X2_variableOn j g a x1 x4) then (if (t_X4_digit g a x2 x3) = (t_X4_digit g a x2 x4) then f_X2_isLikeOnLike_14 j g a K2 n x1 x2 x3 (x4 + 1) else some 0) else f_X2_isLikeOnLike_14 j g a K2 n x1 x2 x3 (x4 + 1)))
theorem e_X2_isLikeOnLike_14 (j : Nat) (g : xG) (a : xA) (K2 : Int32 → Int32 → Int32 → Option (Int32)) (n : Nat) (x1 : Int32) (x2 : Int32) (x3 : Int32) (x4 : Int32) : f_X2_isLikeOnLike_14 j g a K2 (n + 1) x1 x2 x3 x4 = (if x3 ≤ x4 then K2 x1 x2 (x3 + 1) else (if (t_X2_variableOn j g a x1 x3) = (t_X2_variableOn j g a x1 x4) then (if (t_X4_digit g a x2 x3) = (t_X4_digit g a x2 x4) then f_X2_isLikeOnLike_14 j g a K2 n x1 x2 x3 (x4 + 1) else some 0) else f_X2_isLikeOnLike_14 j g a K2 n x1 x2 x3 (x4 + 1))) := rfl
def f_X2_isLikeOnLike_2 (j : Nat) (g : xG) (a : xA) : Nat → Int32 → Int32 → Int32 → Option (Int32)
  | 0, _, _, _ => none
  | n + 1, x1, x2, x3 => (if (t_X2_placesOf j g a x1) ≤ x3 then some 1 else f_X2_isLikeOnLike_14 j g a (f_X2_isLikeOnLike_2 j g a n) fu x1 x2 x3 0)
theorem e_X2_isLikeOnLike_2 (j : Nat) (g : xG) (a : xA) (n : Nat) (x1 : Int32) (x2 : Int32) (x3 : Int32) : f_X2_isLikeOnLike_2 j g a (n + 1) x1 x2 x3 = (if (t_X2_placesOf j g a x1) ≤ x3 then some 1 else f_X2_isLikeOnLike_14 j g a (f_X2_isLikeOnLike_2 j g a n) fu x1 x2 x3 0) := rfl
def f_X2_isLikeOnLike (j : Nat) (g : xG) (a : xA) (v1 : Int32) (v2 : Int32) : Option (Int32) := f_X2_isLikeOnLike_2 j g a fu v1 v2 0
set_option maxRecDepth 100000 in
set_option maxHeartbeats 40000000 in
theorem c_X2_isLikeOnLike (l : Launch) (E : xE) (j : Nat) (hj : j < 2) (g : xG) (a : xA) (v1 : Int32) (v2 : Int32) {res : Int32} (hf : f_X2_isLikeOnLike j g a v1 v2 = some res) : xM l E yX2_isLikeOnLike cX2_isLikeOnLike 5 (some .boolean) 2 43 [.ref (E.2.1 (24 + 7 * j)), .int v1, .int v2] (wX E g a) (xQi E res (wX E g a)) := by
  unfold f_X2_isLikeOnLike at hf
  refine xM_of (by decide) (Nat.le_of_ble_eq_true rfl) ?_
  intro p e s m below meth c A hx hb hr hml hts hown hlocks hA hD hP hK hN hS ls hl
  have hw : ∀ w ∈ BW, w.before _ s = true := fun w h => hts w (List.mem_cons_of_mem _ h)
  have C0 : xCtx E p m c cX2_isLikeOnLike 5 s _ RX2 A yX2_isLikeOnLike cX2_isLikeOnLike 5 (some .boolean) := ⟨hx, hb, hml, hown, hts, hA, hK, hN⟩
  have hl : lv_has ls 5 [(0, .ref (E.2.1 (24 + 7 * j))), (1, .int v1), (2, .int v2)] := hl
  have B14 : ∀ (K2 : Int32 → Int32 → Int32 → Option (Int32)) (hK2 : ∀ (x1 : Int32) (x2 : Int32) (x3 : Int32) (H : Heap) (locs : List Loc) (ls : Array Slot), va_P E.1 vwCl (wX E g a) H → va_S A s.heap H locs → lv_has ls 5 [(0, .ref (E.2.1 (24 + 7 * j))), (1, .int x1), (2, .int x2), (3, .int x3)] → K2 x1 x2 x3 = some res → W p l e ({ frames := 2, cells := 0, slots := 0, locals := 43 }) s m ([.ref (E.2.1 (24 + 7 * j)), .int v1, .int v2] : List Value).toArray below meth c H locs 0 0 (MQ below ((xQi E res (wX E g a)) A) ([.ref (E.2.1 (24 + 7 * j)), .int v1, .int v2] : List Value).toArray s 0 0 A) (F0 m 2 ls [])) (n : Nat) (x1 : Int32) (x2 : Int32) (x3 : Int32) (x4 : Int32) (H : Heap) (locs : List Loc) (ls : Array Slot), va_P E.1 vwCl (wX E g a) H → va_S A s.heap H locs → lv_has ls 5 [(0, .ref (E.2.1 (24 + 7 * j))), (1, .int x1), (2, .int x2), (3, .int x3), (4, .int x4)] → f_X2_isLikeOnLike_14 j g a K2 n x1 x2 x3 x4 = some res → W p l e ({ frames := 2, cells := 0, slots := 0, locals := 43 }) s m ([.ref (E.2.1 (24 + 7 * j)), .int v1, .int v2] : List Value).toArray below meth c H locs 0 0 (MQ below ((xQi E res (wX E g a)) A) ([.ref (E.2.1 (24 + 7 * j)), .int v1, .int v2] : List Value).toArray s 0 0 A) (F0 m 14 ls []) := by
    intro K2 hK2 n
    induction n with
    | zero => intro x1 x2 x3 x4 H locs ls hP hS hl hf; exact absurd (show (none : Option (Int32)) = some res from hf) (by intro h; cases h)
    | succ n ih =>
      intro x1 x2 x3 x4 H locs ls hP hS hl hf
      replace hf := (e_X2_isLikeOnLike_14 j g a K2 n x1 x2 x3 x4).symm.trans hf
      refine lv_iload hx hb dX2_isLikeOnLike_14 (lv_at hl 4 rfl) ?_
      refine lv_iload_n hx hb dX2_isLikeOnLike_16 rfl (lv_at hl 3 rfl) ?_
      refine lv_icmp_ge (tgt := 66) hx hb dX2_isLikeOnLike_17 (by decide) (fun c2 => ?_) (fun c2 => ?_)
      · replace hf := (if_pos c2).symm.trans hf
        refine lv_iinc (v := (x3 + 1)) (lv' := [(3, .int (x3 + 1)), (0, .ref (E.2.1 (24 + 7 * j))), (1, .int x1), (2, .int x2), (4, .int x4)]) hx hb dX2_isLikeOnLike_66 hl (k := 3) rfl rfl (by decide) rfl (fun ls hl => ?_)
        refine lv_goto (tgt := 2) hx hb dX2_isLikeOnLike_69 (by decide) ?_
        exact hK2 x1 x2 (x3 + 1) _ _ _ hP hS (lv_sub hl [1, 2, 3, 0] rfl) hf
      · replace hf := (if_neg c2).symm.trans hf
        refine lv_aload_n hx hb dX2_isLikeOnLike_20 rfl (lv_at hl 0 rfl) ?_
        refine lv_iload_n hx hb dX2_isLikeOnLike_21 rfl (lv_at hl 1 rfl) ?_
        refine lv_iload_n hx hb dX2_isLikeOnLike_22 rfl (lv_at hl 3 rfl) ?_
        refine xci (xRunV (rest := []) (As := [.int x1, .int x3]) (C := RX2) (k := 2) C0 (c_X2_variableOn l E j hj g a x1 x3) bw120 bw129 bw86 bw130 bw131 hd_X2_variableOn ⟨Nat.le_of_ble_eq_true rfl, Nat.le_of_ble_eq_true rfl⟩ hP (wX_D hD) hS (va_recv hK hP (ci := 2) rfl (gx_inst E g a j hj)) rfl hl.1 rfl (Nat.le_of_ble_eq_true rfl) dX2_isLikeOnLike_23 ⟨Nat.zero_le _, Nat.zero_le _⟩) hS (fun H locs hP hS => ?_)
        refine lv_aload_n hx hb dX2_isLikeOnLike_26 rfl (lv_at hl 0 rfl) ?_
        refine lv_iload_n hx hb dX2_isLikeOnLike_27 rfl (lv_at hl 1 rfl) ?_
        refine lv_iload hx hb dX2_isLikeOnLike_28 (lv_at hl 4 rfl) ?_
        refine xci (xRunV (rest := [.int (t_X2_variableOn j g a x1 x3)]) (As := [.int x1, .int x4]) (C := RX2) (k := 2) C0 (c_X2_variableOn l E j hj g a x1 x4) bw120 bw129 bw86 bw130 bw131 hd_X2_variableOn ⟨Nat.le_of_ble_eq_true rfl, Nat.le_of_ble_eq_true rfl⟩ hP (wX_D hD) hS (va_recv hK hP (ci := 2) rfl (gx_inst E g a j hj)) rfl hl.1 rfl (Nat.le_of_ble_eq_true rfl) dX2_isLikeOnLike_30 ⟨Nat.zero_le _, Nat.zero_le _⟩) hS (fun H locs hP hS => ?_)
        refine lv_icmp_ne (tgt := 60) hx hb dX2_isLikeOnLike_33 (by decide) (fun c3 => ?_) (fun c3 => ?_)
        · replace hf := (if_neg c3).symm.trans hf
          refine lv_iinc (v := (x4 + 1)) (lv' := [(4, .int (x4 + 1)), (0, .ref (E.2.1 (24 + 7 * j))), (1, .int x1), (2, .int x2), (3, .int x3)]) hx hb dX2_isLikeOnLike_60 hl (k := 4) rfl rfl (by decide) rfl (fun ls hl => ?_)
          refine lv_goto (tgt := 14) hx hb dX2_isLikeOnLike_63 (by decide) ?_
          exact ih x1 x2 x3 (x4 + 1) _ _ _ hP hS (lv_sub hl [1, 2, 3, 4, 0] rfl) hf
        · replace hf := (if_pos c3).symm.trans hf
          refine lv_aload_n hx hb dX2_isLikeOnLike_36 rfl (lv_at hl 0 rfl) ?_
          refine va_get (C := RX2) (T := TX2) (N := 10) hx hb hw bfX20 hown hK hP (24 + 7 * j) (gx_inst E g a j hj) rfl 1 (by decide) (hw _ bw76) (fun _ h9 => h9) rfl dX2_isLikeOnLike_37 ?_
          refine lv_iload_n hx hb dX2_isLikeOnLike_40 rfl (lv_at hl 2 rfl) ?_
          refine lv_iload_n hx hb dX2_isLikeOnLike_41 rfl (lv_at hl 3 rfl) ?_
          refine xci (xRunV (rest := []) (As := [.int x2, .int x3]) (C := RX4) (k := 2) C0 (c_X4_digit l E g a x2 x3) bw174 bw225 bw22 bw199 bw200 hd_X4_digit ⟨Nat.le_of_ble_eq_true rfl, Nat.le_of_ble_eq_true rfl⟩ hP (wX_D hD) hS (va_recv hK hP (ci := 4) rfl (gx_1 E g a)) rfl hl.1 rfl (Nat.le_of_ble_eq_true rfl) dX2_isLikeOnLike_42 ⟨Nat.zero_le _, Nat.zero_le _⟩) hS (fun H locs hP hS => ?_)
          refine lv_aload_n hx hb dX2_isLikeOnLike_45 rfl (lv_at hl 0 rfl) ?_
          refine va_get (C := RX2) (T := TX2) (N := 10) hx hb hw bfX20 hown hK hP (24 + 7 * j) (gx_inst E g a j hj) rfl 1 (by decide) (hw _ bw76) (fun _ h9 => h9) rfl dX2_isLikeOnLike_46 ?_
          refine lv_iload_n hx hb dX2_isLikeOnLike_49 rfl (lv_at hl 2 rfl) ?_
          refine lv_iload hx hb dX2_isLikeOnLike_50 (lv_at hl 4 rfl) ?_
          refine xci (xRunV (rest := [.int (t_X4_digit g a x2 x3)]) (As := [.int x2, .int x4]) (C := RX4) (k := 2) C0 (c_X4_digit l E g a x2 x4) bw174 bw225 bw22 bw199 bw200 hd_X4_digit ⟨Nat.le_of_ble_eq_true rfl, Nat.le_of_ble_eq_true rfl⟩ hP (wX_D hD) hS (va_recv hK hP (ci := 4) rfl (gx_1 E g a)) rfl hl.1 rfl (Nat.le_of_ble_eq_true rfl) dX2_isLikeOnLike_52 ⟨Nat.zero_le _, Nat.zero_le _⟩) hS (fun H locs hP hS => ?_)
          refine lv_icmp_eq (tgt := 60) hx hb dX2_isLikeOnLike_55 (by decide) (fun c4 => ?_) (fun c4 => ?_)
          · replace hf := (if_pos c4).symm.trans hf
            refine lv_iinc (v := (x4 + 1)) (lv' := [(4, .int (x4 + 1)), (0, .ref (E.2.1 (24 + 7 * j))), (1, .int x1), (2, .int x2), (3, .int x3)]) hx hb dX2_isLikeOnLike_60 hl (k := 4) rfl rfl (by decide) rfl (fun ls hl => ?_)
            refine lv_goto (tgt := 14) hx hb dX2_isLikeOnLike_63 (by decide) ?_
            exact ih x1 x2 x3 (x4 + 1) _ _ _ hP hS (lv_sub hl [1, 2, 3, 4, 0] rfl) hf
          · replace hf := (if_neg c4).symm.trans hf
            refine lv_iconst (v := 0) hx hb dX2_isLikeOnLike_58 (by decide) ?_
            exact xz_retS (fr := (fun r => r)) (fw := (fun r => wX E g a)) hx hb hr hlocks (Option.some.inj hf) nz0 hP hS dX2_isLikeOnLike_59
  have B2 : ∀ (n : Nat) (x1 : Int32) (x2 : Int32) (x3 : Int32) (H : Heap) (locs : List Loc) (ls : Array Slot), va_P E.1 vwCl (wX E g a) H → va_S A s.heap H locs → lv_has ls 5 [(0, .ref (E.2.1 (24 + 7 * j))), (1, .int x1), (2, .int x2), (3, .int x3)] → f_X2_isLikeOnLike_2 j g a n x1 x2 x3 = some res → W p l e ({ frames := 2, cells := 0, slots := 0, locals := 43 }) s m ([.ref (E.2.1 (24 + 7 * j)), .int v1, .int v2] : List Value).toArray below meth c H locs 0 0 (MQ below ((xQi E res (wX E g a)) A) ([.ref (E.2.1 (24 + 7 * j)), .int v1, .int v2] : List Value).toArray s 0 0 A) (F0 m 2 ls []) := by
    intro n
    induction n with
    | zero => intro x1 x2 x3 H locs ls hP hS hl hf; exact absurd (show (none : Option (Int32)) = some res from hf) (by intro h; cases h)
    | succ n ih =>
      intro x1 x2 x3 H locs ls hP hS hl hf
      replace hf := (e_X2_isLikeOnLike_2 j g a n x1 x2 x3).symm.trans hf
      refine lv_iload_n hx hb dX2_isLikeOnLike_2 rfl (lv_at hl 3 rfl) ?_
      refine lv_aload_n hx hb dX2_isLikeOnLike_3 rfl (lv_at hl 0 rfl) ?_
      refine lv_iload_n hx hb dX2_isLikeOnLike_4 rfl (lv_at hl 1 rfl) ?_
      refine xci (xRunV (rest := [.int x3]) (As := [.int x1]) (C := RX2) (k := 1) C0 (c_X2_placesOf l E j hj g a x1) bw119 bw126 bw86 bw127 bw128 hd_X2_placesOf ⟨Nat.le_of_ble_eq_true rfl, Nat.le_of_ble_eq_true rfl⟩ hP (wX_D hD) hS (va_recv hK hP (ci := 2) rfl (gx_inst E g a j hj)) rfl hl.1 rfl (Nat.le_of_ble_eq_true rfl) dX2_isLikeOnLike_5 ⟨Nat.zero_le _, Nat.zero_le _⟩) hS (fun H locs hP hS => ?_)
      refine lv_icmp_ge (tgt := 72) hx hb dX2_isLikeOnLike_8 (by decide) (fun c1 => ?_) (fun c1 => ?_)
      · replace hf := (if_pos c1).symm.trans hf
        refine lv_iconst (v := 1) hx hb dX2_isLikeOnLike_72 (by decide) ?_
        exact xz_retS (fr := (fun r => r)) (fw := (fun r => wX E g a)) hx hb hr hlocks (Option.some.inj hf) nz1 hP hS dX2_isLikeOnLike_73
      · replace hf := (if_neg c1).symm.trans hf
        refine lv_iconst (v := 0) hx hb dX2_isLikeOnLike_11 (by decide) ?_
        refine lv_istore (lv' := [(4, .int 0), (0, .ref (E.2.1 (24 + 7 * j))), (1, .int x1), (2, .int x2), (3, .int x3)]) hx hb dX2_isLikeOnLike_12 hl (by decide) rfl (fun ls hl => ?_)
        exact B14 (f_X2_isLikeOnLike_2 j g a n) ih fu x1 x2 x3 0 _ _ _ hP hS (lv_sub hl [1, 2, 3, 4, 0] rfl) hf
  refine lv_iconst (v := 0) hx hb dX2_isLikeOnLike_0 (by decide) ?_
  refine lv_istore_n (lv' := [(3, .int 0), (0, .ref (E.2.1 (24 + 7 * j))), (1, .int v1), (2, .int v2)]) hx hb dX2_isLikeOnLike_1 rfl hl (by decide) rfl (fun ls hl => ?_)
  exact B2 fu v1 v2 0 _ _ _ hP hS (lv_sub hl [1, 2, 3, 0] rfl) hf
def f_X2_standing_21 (j : Nat) (g : xG) (a : xA) : Nat → Int32 → Int32 → Int32 → Int32 → Option (Int32)
  | 0, _, _, _, _ => none
  | n + 1, x1, x2, x3, x4 => (if (t_X4_power g a (t_X2_placesOf j g a x1)) ≤ x4 then some x3 else (if (isInF x4 x2) = 0 then f_X2_standing_21 j g a n x1 x2 x3 (x4 + 1) else Option.bind (f_X2_isLikeOnLike j g a x1 x4) (fun u3 => (if u3 = 0 then f_X2_standing_21 j g a n x1 x2 x3 (x4 + 1) else f_X2_standing_21 j g a n x1 x2 (x3 ||| ((1 : Int32) <<< (x4 &&& 31))) (x4 + 1)))))
theorem e_X2_standing_21 (j : Nat) (g : xG) (a : xA) (n : Nat) (x1 : Int32) (x2 : Int32) (x3 : Int32) (x4 : Int32) : f_X2_standing_21 j g a (n + 1) x1 x2 x3 x4 = (if (t_X4_power g a (t_X2_placesOf j g a x1)) ≤ x4 then some x3 else (if (isInF x4 x2) = 0 then f_X2_standing_21 j g a n x1 x2 x3 (x4 + 1) else Option.bind (f_X2_isLikeOnLike j g a x1 x4) (fun u3 => (if u3 = 0 then f_X2_standing_21 j g a n x1 x2 x3 (x4 + 1) else f_X2_standing_21 j g a n x1 x2 (x3 ||| ((1 : Int32) <<< (x4 &&& 31))) (x4 + 1))))) := rfl
def f_X2_standing (j : Nat) (g : xG) (a : xA) (v1 : Int32) : Option (Int32) := f_X2_standing_21 j g a fu v1 (t_X10_tuplesOf g a (atF 16 (a (25 + 7 * j)) v1)) 0 0
set_option maxRecDepth 100000 in
set_option maxHeartbeats 40000000 in
theorem c_X2_standing (l : Launch) (E : xE) (j : Nat) (hj : j < 2) (g : xG) (a : xA) (v1 : Int32) {res : Int32} (hf : f_X2_standing j g a v1 = some res) : xM l E yX2_standing cX2_standing 5 (some .int) 3 67 [.ref (E.2.1 (24 + 7 * j)), .int v1] (wX E g a) (xQi E res (wX E g a)) := by
  unfold f_X2_standing at hf
  refine xM_of (by decide) (Nat.le_of_ble_eq_true rfl) ?_
  intro p e s m below meth c A hx hb hr hml hts hown hlocks hA hD hP hK hN hS ls hl
  have hw : ∀ w ∈ BW, w.before _ s = true := fun w h => hts w (List.mem_cons_of_mem _ h)
  have C0 : xCtx E p m c cX2_standing 5 s _ RX2 A yX2_standing cX2_standing 5 (some .int) := ⟨hx, hb, hml, hown, hts, hA, hK, hN⟩
  have hl : lv_has ls 5 [(0, .ref (E.2.1 (24 + 7 * j))), (1, .int v1)] := hl
  have B21 : ∀ (n : Nat) (x1 : Int32) (x2 : Int32) (x3 : Int32) (x4 : Int32) (H : Heap) (locs : List Loc) (ls : Array Slot), va_P E.1 vwCl (wX E g a) H → va_S A s.heap H locs → lv_has ls 5 [(0, .ref (E.2.1 (24 + 7 * j))), (1, .int x1), (2, .int x2), (3, .int x3), (4, .int x4)] → f_X2_standing_21 j g a n x1 x2 x3 x4 = some res → W p l e ({ frames := 3, cells := 0, slots := 0, locals := 67 }) s m ([.ref (E.2.1 (24 + 7 * j)), .int v1] : List Value).toArray below meth c H locs 0 0 (MQ below ((xQi E res (wX E g a)) A) ([.ref (E.2.1 (24 + 7 * j)), .int v1] : List Value).toArray s 0 0 A) (F0 m 21 ls []) := by
    intro n
    induction n with
    | zero => intro x1 x2 x3 x4 H locs ls hP hS hl hf; exact absurd (show (none : Option (Int32)) = some res from hf) (by intro h; cases h)
    | succ n ih =>
      intro x1 x2 x3 x4 H locs ls hP hS hl hf
      replace hf := (e_X2_standing_21 j g a n x1 x2 x3 x4).symm.trans hf
      refine lv_iload hx hb dX2_standing_21 (lv_at hl 4 rfl) ?_
      refine lv_aload_n hx hb dX2_standing_23 rfl (lv_at hl 0 rfl) ?_
      refine va_get (C := RX2) (T := TX2) (N := 10) hx hb hw bfX20 hown hK hP (24 + 7 * j) (gx_inst E g a j hj) rfl 1 (by decide) (hw _ bw76) (fun _ h9 => h9) rfl dX2_standing_24 ?_
      refine lv_aload_n hx hb dX2_standing_27 rfl (lv_at hl 0 rfl) ?_
      refine lv_iload_n hx hb dX2_standing_28 rfl (lv_at hl 1 rfl) ?_
      refine xci (xRunV (rest := [.ref (E.2.1 1), .int x4]) (As := [.int x1]) (C := RX2) (k := 1) C0 (c_X2_placesOf l E j hj g a x1) bw119 bw126 bw86 bw127 bw128 hd_X2_placesOf ⟨Nat.le_of_ble_eq_true rfl, Nat.le_of_ble_eq_true rfl⟩ hP (wX_D hD) hS (va_recv hK hP (ci := 2) rfl (gx_inst E g a j hj)) rfl hl.1 rfl (Nat.le_of_ble_eq_true rfl) dX2_standing_29 ⟨Nat.zero_le _, Nat.zero_le _⟩) hS (fun H locs hP hS => ?_)
      refine xci (xRunV (rest := [.int x4]) (As := [.int (t_X2_placesOf j g a x1)]) (C := RX4) (k := 1) C0 (c_X4_power l E g a (t_X2_placesOf j g a x1)) bw55 bw211 bw22 bw58 bw59 hd_X4_power ⟨Nat.le_of_ble_eq_true rfl, Nat.le_of_ble_eq_true rfl⟩ hP (wX_D hD) hS (va_recv hK hP (ci := 4) rfl (gx_1 E g a)) rfl hl.1 rfl (Nat.le_of_ble_eq_true rfl) dX2_standing_32 ⟨Nat.zero_le _, Nat.zero_le _⟩) hS (fun H locs hP hS => ?_)
      refine lv_icmp_ge (tgt := 70) hx hb dX2_standing_35 (by decide) (fun c1 => ?_) (fun c1 => ?_)
      · replace hf := (if_pos c1).symm.trans hf
        refine lv_iload_n hx hb dX2_standing_70 rfl (lv_at hl 3 rfl) ?_
        exact xi_retS (fr := (fun r => r)) (fw := (fun r => wX E g a)) hx hb hr hlocks (Option.some.inj hf) hP hS dX2_standing_71
      · replace hf := (if_neg c1).symm.trans hf
        refine lv_iload hx hb dX2_standing_38 (lv_at hl 4 rfl) ?_
        refine lv_iload_n hx hb dX2_standing_40 rfl (lv_at hl 2 rfl) ?_
        refine xci (xRunN (rest := []) (As := [.int x4, .int x2]) (k := 2) C0 (c_isIn l E (wX E g a) x4 x2) bw8 nw9 bw13 bw18 hd_X11_isIn ⟨Nat.le_of_ble_eq_true rfl, Nat.le_of_ble_eq_true rfl⟩ hP (wX_D hD) hS rfl hl.1 rfl (Nat.le_of_ble_eq_true rfl) dX2_standing_41 ⟨Nat.zero_le _, Nat.zero_le _⟩) hS (fun H locs hP hS => ?_)
        refine lv_if_eq (tgt := 64) hx hb dX2_standing_44 (by decide) (fun c2 => ?_) (fun c2 => ?_)
        · replace hf := (if_pos c2).symm.trans hf
          refine lv_iinc (v := (x4 + 1)) (lv' := [(4, .int (x4 + 1)), (0, .ref (E.2.1 (24 + 7 * j))), (1, .int x1), (2, .int x2), (3, .int x3)]) hx hb dX2_standing_64 hl (k := 4) rfl rfl (by decide) rfl (fun ls hl => ?_)
          refine lv_goto (tgt := 21) hx hb dX2_standing_67 (by decide) ?_
          exact ih x1 x2 x3 (x4 + 1) _ _ _ hP hS (lv_sub hl [1, 2, 3, 4, 0] rfl) hf
        · replace hf := (if_neg c2).symm.trans hf
          refine lv_aload_n hx hb dX2_standing_47 rfl (lv_at hl 0 rfl) ?_
          refine lv_iload_n hx hb dX2_standing_48 rfl (lv_at hl 1 rfl) ?_
          refine lv_iload hx hb dX2_standing_49 (lv_at hl 4 rfl) ?_
          obtain ⟨u3, e4, hf⟩ := bd_some hf
          refine xci (xRunV (rest := []) (As := [.int x1, .int x4]) (C := RX2) (k := 2) C0 (c_X2_isLikeOnLike l E j hj g a x1 x4 e4) bw224 bw226 bw86 bw227 bw228 hd_X2_isLikeOnLike ⟨Nat.le_of_ble_eq_true rfl, Nat.le_of_ble_eq_true rfl⟩ hP (wX_D hD) hS (va_recv hK hP (ci := 2) rfl (gx_inst E g a j hj)) rfl hl.1 rfl (Nat.le_of_ble_eq_true rfl) dX2_standing_51 ⟨Nat.zero_le _, Nat.zero_le _⟩) hS (fun H locs hP hS => ?_)
          refine lv_if_eq (tgt := 64) hx hb dX2_standing_54 (by decide) (fun c5 => ?_) (fun c5 => ?_)
          · replace hf := (if_pos c5).symm.trans hf
            refine lv_iinc (v := (x4 + 1)) (lv' := [(4, .int (x4 + 1)), (0, .ref (E.2.1 (24 + 7 * j))), (1, .int x1), (2, .int x2), (3, .int x3)]) hx hb dX2_standing_64 hl (k := 4) rfl rfl (by decide) rfl (fun ls hl => ?_)
            refine lv_goto (tgt := 21) hx hb dX2_standing_67 (by decide) ?_
            exact ih x1 x2 x3 (x4 + 1) _ _ _ hP hS (lv_sub hl [1, 2, 3, 4, 0] rfl) hf
          · replace hf := (if_neg c5).symm.trans hf
            refine lv_iload_n hx hb dX2_standing_57 rfl (lv_at hl 3 rfl) ?_
            refine lv_iconst (v := 1) hx hb dX2_standing_58 (by decide) ?_
            refine lv_iload hx hb dX2_standing_59 (lv_at hl 4 rfl) ?_
            refine lv_ishl hx hb dX2_standing_61 ?_
            refine lv_ior hx hb dX2_standing_62 ?_
            refine lv_istore_n (lv' := [(3, .int (x3 ||| ((1 : Int32) <<< (x4 &&& 31)))), (0, .ref (E.2.1 (24 + 7 * j))), (1, .int x1), (2, .int x2), (4, .int x4)]) hx hb dX2_standing_63 rfl hl (by decide) rfl (fun ls hl => ?_)
            refine lv_iinc (v := (x4 + 1)) (lv' := [(4, .int (x4 + 1)), (3, .int (x3 ||| ((1 : Int32) <<< (x4 &&& 31)))), (0, .ref (E.2.1 (24 + 7 * j))), (1, .int x1), (2, .int x2)]) hx hb dX2_standing_64 hl (k := 4) rfl rfl (by decide) rfl (fun ls hl => ?_)
            refine lv_goto (tgt := 21) hx hb dX2_standing_67 (by decide) ?_
            exact ih x1 x2 (x3 ||| ((1 : Int32) <<< (x4 &&& 31))) (x4 + 1) _ _ _ hP hS (lv_sub hl [2, 3, 4, 1, 0] rfl) hf
  refine lv_aload_n hx hb dX2_standing_0 rfl (lv_at hl 0 rfl) ?_
  refine va_get (C := RX2) (T := TX2) (N := 10) hx hb hw bfX20 hown hK hP (24 + 7 * j) (gx_inst E g a j hj) rfl 2 (by decide) (hw _ bw77) (fun _ h9 => h9) rfl dX2_standing_1 ?_
  refine lv_aload_n hx hb dX2_standing_4 rfl (lv_at hl 0 rfl) ?_
  refine va_get (C := RX2) (T := TX2) (N := 10) hx hb hw bfX20 hown hK hP (24 + 7 * j) (gx_inst E g a j hj) rfl 4 (by decide) (hw _ bw70) (fun _ h9 => h9) rfl dX2_standing_5 ?_
  refine lv_iload_n hx hb dX2_standing_8 rfl (lv_at hl 1 rfl) ?_
  refine xci (xRunN (rest := [.ref (E.2.1 4)]) (As := [.ref (E.2.1 (25 + 7 * j)), .int v1]) (k := 2) C0 (c_at l E (wX E g a) (25 + 7 * j) v1 (gx_ia25 E g a j hj) (Nat.le_of_ble_eq_true rfl)) bw9 nw8 bw13 bw12 hd_X11_at ⟨Nat.le_of_ble_eq_true rfl, Nat.le_of_ble_eq_true rfl⟩ hP (wX_D hD) hS rfl hl.1 rfl (Nat.le_of_ble_eq_true rfl) dX2_standing_9 ⟨Nat.zero_le _, Nat.zero_le _⟩) hS (fun H locs hP hS => ?_)
  refine xci (xRunV (rest := []) (As := [.int (atF 16 (a (25 + 7 * j)) v1)]) (C := RX10) (k := 1) C0 (c_X10_tuplesOf l E g a (atF 16 (a (25 + 7 * j)) v1)) bw176 bw179 bw115 bw180 bw181 hd_X10_tuplesOf ⟨Nat.le_of_ble_eq_true rfl, Nat.le_of_ble_eq_true rfl⟩ hP (wX_D hD) hS (va_recv hK hP (ci := 10) rfl (gx_4 E g a)) rfl hl.1 rfl (Nat.le_of_ble_eq_true rfl) dX2_standing_12 ⟨Nat.zero_le _, Nat.zero_le _⟩) hS (fun H locs hP hS => ?_)
  refine lv_istore_n (lv' := [(2, .int (t_X10_tuplesOf g a (atF 16 (a (25 + 7 * j)) v1))), (0, .ref (E.2.1 (24 + 7 * j))), (1, .int v1)]) hx hb dX2_standing_15 rfl hl (by decide) rfl (fun ls hl => ?_)
  refine lv_iconst (v := 0) hx hb dX2_standing_16 (by decide) ?_
  refine lv_istore_n (lv' := [(3, .int 0), (2, .int (t_X10_tuplesOf g a (atF 16 (a (25 + 7 * j)) v1))), (0, .ref (E.2.1 (24 + 7 * j))), (1, .int v1)]) hx hb dX2_standing_17 rfl hl (by decide) rfl (fun ls hl => ?_)
  refine lv_iconst (v := 0) hx hb dX2_standing_18 (by decide) ?_
  refine lv_istore (lv' := [(4, .int 0), (3, .int 0), (2, .int (t_X10_tuplesOf g a (atF 16 (a (25 + 7 * j)) v1))), (0, .ref (E.2.1 (24 + 7 * j))), (1, .int v1)]) hx hb dX2_standing_19 hl (by decide) rfl (fun ls hl => ?_)
  exact B21 fu v1 (t_X10_tuplesOf g a (atF 16 (a (25 + 7 * j)) v1)) 0 0 _ _ _ hP hS (lv_sub hl [3, 4, 2, 1, 0] rfl) hf
def f_X2_isLeft_2 (j : Nat) (g : xG) (a : xA) : Nat → Int32 → Int32 → Int32 → Option (Int32)
  | 0, _, _, _ => none
  | n + 1, x1, x2, x3 => (if (t_X2_placesOf j g a x1) ≤ x3 then some 1 else (if (isInF (t_X4_digit g a x2 x3) (atF 6 (a (29 + 7 * j)) (t_X2_variableOn j g a x1 x3))) = 0 then some 0 else f_X2_isLeft_2 j g a n x1 x2 (x3 + 1)))
theorem e_X2_isLeft_2 (j : Nat) (g : xG) (a : xA) (n : Nat) (x1 : Int32) (x2 : Int32) (x3 : Int32) : f_X2_isLeft_2 j g a (n + 1) x1 x2 x3 = (if (t_X2_placesOf j g a x1) ≤ x3 then some 1 else (if (isInF (t_X4_digit g a x2 x3) (atF 6 (a (29 + 7 * j)) (t_X2_variableOn j g a x1 x3))) = 0 then some 0 else f_X2_isLeft_2 j g a n x1 x2 (x3 + 1))) := rfl
def f_X2_isLeft (j : Nat) (g : xG) (a : xA) (v1 : Int32) (v2 : Int32) : Option (Int32) := f_X2_isLeft_2 j g a fu v1 v2 0
set_option maxRecDepth 100000 in
set_option maxHeartbeats 40000000 in
theorem c_X2_isLeft (l : Launch) (E : xE) (j : Nat) (hj : j < 2) (g : xG) (a : xA) (v1 : Int32) (v2 : Int32) {res : Int32} (hf : f_X2_isLeft j g a v1 v2 = some res) : xM l E yX2_isLeft cX2_isLeft 4 (some .boolean) 2 43 [.ref (E.2.1 (24 + 7 * j)), .int v1, .int v2] (wX E g a) (xQi E res (wX E g a)) := by
  unfold f_X2_isLeft at hf
  refine xM_of (by decide) (Nat.le_of_ble_eq_true rfl) ?_
  intro p e s m below meth c A hx hb hr hml hts hown hlocks hA hD hP hK hN hS ls hl
  have hw : ∀ w ∈ BW, w.before _ s = true := fun w h => hts w (List.mem_cons_of_mem _ h)
  have C0 : xCtx E p m c cX2_isLeft 4 s _ RX2 A yX2_isLeft cX2_isLeft 4 (some .boolean) := ⟨hx, hb, hml, hown, hts, hA, hK, hN⟩
  have hl : lv_has ls 4 [(0, .ref (E.2.1 (24 + 7 * j))), (1, .int v1), (2, .int v2)] := hl
  have B2 : ∀ (n : Nat) (x1 : Int32) (x2 : Int32) (x3 : Int32) (H : Heap) (locs : List Loc) (ls : Array Slot), va_P E.1 vwCl (wX E g a) H → va_S A s.heap H locs → lv_has ls 4 [(0, .ref (E.2.1 (24 + 7 * j))), (1, .int x1), (2, .int x2), (3, .int x3)] → f_X2_isLeft_2 j g a n x1 x2 x3 = some res → W p l e ({ frames := 2, cells := 0, slots := 0, locals := 43 }) s m ([.ref (E.2.1 (24 + 7 * j)), .int v1, .int v2] : List Value).toArray below meth c H locs 0 0 (MQ below ((xQi E res (wX E g a)) A) ([.ref (E.2.1 (24 + 7 * j)), .int v1, .int v2] : List Value).toArray s 0 0 A) (F0 m 2 ls []) := by
    intro n
    induction n with
    | zero => intro x1 x2 x3 H locs ls hP hS hl hf; exact absurd (show (none : Option (Int32)) = some res from hf) (by intro h; cases h)
    | succ n ih =>
      intro x1 x2 x3 H locs ls hP hS hl hf
      replace hf := (e_X2_isLeft_2 j g a n x1 x2 x3).symm.trans hf
      refine lv_iload_n hx hb dX2_isLeft_2 rfl (lv_at hl 3 rfl) ?_
      refine lv_aload_n hx hb dX2_isLeft_3 rfl (lv_at hl 0 rfl) ?_
      refine lv_iload_n hx hb dX2_isLeft_4 rfl (lv_at hl 1 rfl) ?_
      refine xci (xRunV (rest := [.int x3]) (As := [.int x1]) (C := RX2) (k := 1) C0 (c_X2_placesOf l E j hj g a x1) bw119 bw126 bw86 bw127 bw128 hd_X2_placesOf ⟨Nat.le_of_ble_eq_true rfl, Nat.le_of_ble_eq_true rfl⟩ hP (wX_D hD) hS (va_recv hK hP (ci := 2) rfl (gx_inst E g a j hj)) rfl hl.1 rfl (Nat.le_of_ble_eq_true rfl) dX2_isLeft_5 ⟨Nat.zero_le _, Nat.zero_le _⟩) hS (fun H locs hP hS => ?_)
      refine lv_icmp_ge (tgt := 47) hx hb dX2_isLeft_8 (by decide) (fun c1 => ?_) (fun c1 => ?_)
      · replace hf := (if_pos c1).symm.trans hf
        refine lv_iconst (v := 1) hx hb dX2_isLeft_47 (by decide) ?_
        exact xz_retS (fr := (fun r => r)) (fw := (fun r => wX E g a)) hx hb hr hlocks (Option.some.inj hf) nz1 hP hS dX2_isLeft_48
      · replace hf := (if_neg c1).symm.trans hf
        refine lv_aload_n hx hb dX2_isLeft_11 rfl (lv_at hl 0 rfl) ?_
        refine va_get (C := RX2) (T := TX2) (N := 10) hx hb hw bfX20 hown hK hP (24 + 7 * j) (gx_inst E g a j hj) rfl 1 (by decide) (hw _ bw76) (fun _ h9 => h9) rfl dX2_isLeft_12 ?_
        refine lv_iload_n hx hb dX2_isLeft_15 rfl (lv_at hl 2 rfl) ?_
        refine lv_iload_n hx hb dX2_isLeft_16 rfl (lv_at hl 3 rfl) ?_
        refine xci (xRunV (rest := []) (As := [.int x2, .int x3]) (C := RX4) (k := 2) C0 (c_X4_digit l E g a x2 x3) bw174 bw225 bw22 bw199 bw200 hd_X4_digit ⟨Nat.le_of_ble_eq_true rfl, Nat.le_of_ble_eq_true rfl⟩ hP (wX_D hD) hS (va_recv hK hP (ci := 4) rfl (gx_1 E g a)) rfl hl.1 rfl (Nat.le_of_ble_eq_true rfl) dX2_isLeft_17 ⟨Nat.zero_le _, Nat.zero_le _⟩) hS (fun H locs hP hS => ?_)
        refine lv_aload_n hx hb dX2_isLeft_20 rfl (lv_at hl 0 rfl) ?_
        refine va_get (C := RX2) (T := TX2) (N := 10) hx hb hw bfX20 hown hK hP (24 + 7 * j) (gx_inst E g a j hj) rfl 8 (by decide) (hw _ bw74) (fun _ h9 => h9) rfl dX2_isLeft_21 ?_
        refine lv_aload_n hx hb dX2_isLeft_24 rfl (lv_at hl 0 rfl) ?_
        refine lv_iload_n hx hb dX2_isLeft_25 rfl (lv_at hl 1 rfl) ?_
        refine lv_iload_n hx hb dX2_isLeft_26 rfl (lv_at hl 3 rfl) ?_
        refine xci (xRunV (rest := [.ref (E.2.1 (29 + 7 * j)), .int (t_X4_digit g a x2 x3)]) (As := [.int x1, .int x3]) (C := RX2) (k := 2) C0 (c_X2_variableOn l E j hj g a x1 x3) bw120 bw129 bw86 bw130 bw131 hd_X2_variableOn ⟨Nat.le_of_ble_eq_true rfl, Nat.le_of_ble_eq_true rfl⟩ hP (wX_D hD) hS (va_recv hK hP (ci := 2) rfl (gx_inst E g a j hj)) rfl hl.1 rfl (Nat.le_of_ble_eq_true rfl) dX2_isLeft_27 ⟨Nat.zero_le _, Nat.zero_le _⟩) hS (fun H locs hP hS => ?_)
        refine xci (xRunN (rest := [.int (t_X4_digit g a x2 x3)]) (As := [.ref (E.2.1 (29 + 7 * j)), .int (t_X2_variableOn j g a x1 x3)]) (k := 2) C0 (c_at l E (wX E g a) (29 + 7 * j) (t_X2_variableOn j g a x1 x3) (gx_ia29 E g a j hj) (Nat.le_of_ble_eq_true rfl)) bw9 nw8 bw13 bw12 hd_X11_at ⟨Nat.le_of_ble_eq_true rfl, Nat.le_of_ble_eq_true rfl⟩ hP (wX_D hD) hS rfl hl.1 rfl (Nat.le_of_ble_eq_true rfl) dX2_isLeft_30 ⟨Nat.zero_le _, Nat.zero_le _⟩) hS (fun H locs hP hS => ?_)
        refine xci (xRunN (rest := []) (As := [.int (t_X4_digit g a x2 x3), .int (atF 6 (a (29 + 7 * j)) (t_X2_variableOn j g a x1 x3))]) (k := 2) C0 (c_isIn l E (wX E g a) (t_X4_digit g a x2 x3) (atF 6 (a (29 + 7 * j)) (t_X2_variableOn j g a x1 x3))) bw8 nw9 bw13 bw18 hd_X11_isIn ⟨Nat.le_of_ble_eq_true rfl, Nat.le_of_ble_eq_true rfl⟩ hP (wX_D hD) hS rfl hl.1 rfl (Nat.le_of_ble_eq_true rfl) dX2_isLeft_33 ⟨Nat.zero_le _, Nat.zero_le _⟩) hS (fun H locs hP hS => ?_)
        refine lv_if_ne (tgt := 41) hx hb dX2_isLeft_36 (by decide) (fun c2 => ?_) (fun c2 => ?_)
        · replace hf := (if_neg c2).symm.trans hf
          refine lv_iinc (v := (x3 + 1)) (lv' := [(3, .int (x3 + 1)), (0, .ref (E.2.1 (24 + 7 * j))), (1, .int x1), (2, .int x2)]) hx hb dX2_isLeft_41 hl (k := 3) rfl rfl (by decide) rfl (fun ls hl => ?_)
          refine lv_goto (tgt := 2) hx hb dX2_isLeft_44 (by decide) ?_
          exact ih x1 x2 (x3 + 1) _ _ _ hP hS (lv_sub hl [1, 2, 3, 0] rfl) hf
        · replace hf := (if_pos c2).symm.trans hf
          refine lv_iconst (v := 0) hx hb dX2_isLeft_39 (by decide) ?_
          exact xz_retS (fr := (fun r => r)) (fw := (fun r => wX E g a)) hx hb hr hlocks (Option.some.inj hf) nz0 hP hS dX2_isLeft_40
  refine lv_iconst (v := 0) hx hb dX2_isLeft_0 (by decide) ?_
  refine lv_istore_n (lv' := [(3, .int 0), (0, .ref (E.2.1 (24 + 7 * j))), (1, .int v1), (2, .int v2)]) hx hb dX2_isLeft_1 rfl hl (by decide) rfl (fun ls hl => ?_)
  exact B2 fu v1 v2 0 _ _ _ hP hS (lv_sub hl [1, 2, 3, 0] rfl) hf
def f_X2_supported_12 (j : Nat) (g : xG) (a : xA) : Nat → Int32 → Int32 → Int32 → Int32 → Int32 → Option (Int32)
  | 0, _, _, _, _, _ => none
  | n + 1, x1, x2, x3, x4, x5 => (if (t_X4_power g a (t_X2_placesOf j g a x1)) ≤ x5 then some x4 else (if (isInF x5 x3) = 0 then f_X2_supported_12 j g a n x1 x2 x3 x4 (x5 + 1) else Option.bind (f_X2_isLeft j g a x1 x5) (fun u5 => (if u5 = 0 then f_X2_supported_12 j g a n x1 x2 x3 x4 (x5 + 1) else f_X2_supported_12 j g a n x1 x2 x3 (x4 ||| ((1 : Int32) <<< ((t_X4_digit g a x5 x2) &&& 31))) (x5 + 1)))))
theorem e_X2_supported_12 (j : Nat) (g : xG) (a : xA) (n : Nat) (x1 : Int32) (x2 : Int32) (x3 : Int32) (x4 : Int32) (x5 : Int32) : f_X2_supported_12 j g a (n + 1) x1 x2 x3 x4 x5 = (if (t_X4_power g a (t_X2_placesOf j g a x1)) ≤ x5 then some x4 else (if (isInF x5 x3) = 0 then f_X2_supported_12 j g a n x1 x2 x3 x4 (x5 + 1) else Option.bind (f_X2_isLeft j g a x1 x5) (fun u5 => (if u5 = 0 then f_X2_supported_12 j g a n x1 x2 x3 x4 (x5 + 1) else f_X2_supported_12 j g a n x1 x2 x3 (x4 ||| ((1 : Int32) <<< ((t_X4_digit g a x5 x2) &&& 31))) (x5 + 1))))) := rfl
def f_X2_supported (j : Nat) (g : xG) (a : xA) (v1 : Int32) (v2 : Int32) : Option (Int32) := Option.bind (f_X2_standing j g a v1) (fun u1 => f_X2_supported_12 j g a fu v1 v2 u1 0 0)
set_option maxRecDepth 100000 in
set_option maxHeartbeats 40000000 in
theorem c_X2_supported (l : Launch) (E : xE) (j : Nat) (hj : j < 2) (g : xG) (a : xA) (v1 : Int32) (v2 : Int32) {res : Int32} (hf : f_X2_supported j g a v1 v2 = some res) : xM l E yX2_supported cX2_supported 6 (some .int) 4 91 [.ref (E.2.1 (24 + 7 * j)), .int v1, .int v2] (wX E g a) (xQi E res (wX E g a)) := by
  unfold f_X2_supported at hf
  refine xM_of (by decide) (Nat.le_of_ble_eq_true rfl) ?_
  intro p e s m below meth c A hx hb hr hml hts hown hlocks hA hD hP hK hN hS ls hl
  have hw : ∀ w ∈ BW, w.before _ s = true := fun w h => hts w (List.mem_cons_of_mem _ h)
  have C0 : xCtx E p m c cX2_supported 6 s _ RX2 A yX2_supported cX2_supported 6 (some .int) := ⟨hx, hb, hml, hown, hts, hA, hK, hN⟩
  have hl : lv_has ls 6 [(0, .ref (E.2.1 (24 + 7 * j))), (1, .int v1), (2, .int v2)] := hl
  have B12 : ∀ (n : Nat) (x1 : Int32) (x2 : Int32) (x3 : Int32) (x4 : Int32) (x5 : Int32) (H : Heap) (locs : List Loc) (ls : Array Slot), va_P E.1 vwCl (wX E g a) H → va_S A s.heap H locs → lv_has ls 6 [(0, .ref (E.2.1 (24 + 7 * j))), (1, .int x1), (2, .int x2), (3, .int x3), (4, .int x4), (5, .int x5)] → f_X2_supported_12 j g a n x1 x2 x3 x4 x5 = some res → W p l e ({ frames := 4, cells := 0, slots := 0, locals := 91 }) s m ([.ref (E.2.1 (24 + 7 * j)), .int v1, .int v2] : List Value).toArray below meth c H locs 0 0 (MQ below ((xQi E res (wX E g a)) A) ([.ref (E.2.1 (24 + 7 * j)), .int v1, .int v2] : List Value).toArray s 0 0 A) (F0 m 12 ls []) := by
    intro n
    induction n with
    | zero => intro x1 x2 x3 x4 x5 H locs ls hP hS hl hf; exact absurd (show (none : Option (Int32)) = some res from hf) (by intro h; cases h)
    | succ n ih =>
      intro x1 x2 x3 x4 x5 H locs ls hP hS hl hf
      replace hf := (e_X2_supported_12 j g a n x1 x2 x3 x4 x5).symm.trans hf
      refine lv_iload hx hb dX2_supported_12 (lv_at hl 5 rfl) ?_
      refine lv_aload_n hx hb dX2_supported_14 rfl (lv_at hl 0 rfl) ?_
      refine va_get (C := RX2) (T := TX2) (N := 10) hx hb hw bfX20 hown hK hP (24 + 7 * j) (gx_inst E g a j hj) rfl 1 (by decide) (hw _ bw76) (fun _ h9 => h9) rfl dX2_supported_15 ?_
      refine lv_aload_n hx hb dX2_supported_18 rfl (lv_at hl 0 rfl) ?_
      refine lv_iload_n hx hb dX2_supported_19 rfl (lv_at hl 1 rfl) ?_
      refine xci (xRunV (rest := [.ref (E.2.1 1), .int x5]) (As := [.int x1]) (C := RX2) (k := 1) C0 (c_X2_placesOf l E j hj g a x1) bw119 bw126 bw86 bw127 bw128 hd_X2_placesOf ⟨Nat.le_of_ble_eq_true rfl, Nat.le_of_ble_eq_true rfl⟩ hP (wX_D hD) hS (va_recv hK hP (ci := 2) rfl (gx_inst E g a j hj)) rfl hl.1 rfl (Nat.le_of_ble_eq_true rfl) dX2_supported_20 ⟨Nat.zero_le _, Nat.zero_le _⟩) hS (fun H locs hP hS => ?_)
      refine xci (xRunV (rest := [.int x5]) (As := [.int (t_X2_placesOf j g a x1)]) (C := RX4) (k := 1) C0 (c_X4_power l E g a (t_X2_placesOf j g a x1)) bw55 bw211 bw22 bw58 bw59 hd_X4_power ⟨Nat.le_of_ble_eq_true rfl, Nat.le_of_ble_eq_true rfl⟩ hP (wX_D hD) hS (va_recv hK hP (ci := 4) rfl (gx_1 E g a)) rfl hl.1 rfl (Nat.le_of_ble_eq_true rfl) dX2_supported_23 ⟨Nat.zero_le _, Nat.zero_le _⟩) hS (fun H locs hP hS => ?_)
      refine lv_icmp_ge (tgt := 71) hx hb dX2_supported_26 (by decide) (fun c3 => ?_) (fun c3 => ?_)
      · replace hf := (if_pos c3).symm.trans hf
        refine lv_iload hx hb dX2_supported_71 (lv_at hl 4 rfl) ?_
        exact xi_retS (fr := (fun r => r)) (fw := (fun r => wX E g a)) hx hb hr hlocks (Option.some.inj hf) hP hS dX2_supported_73
      · replace hf := (if_neg c3).symm.trans hf
        refine lv_iload hx hb dX2_supported_29 (lv_at hl 5 rfl) ?_
        refine lv_iload_n hx hb dX2_supported_31 rfl (lv_at hl 3 rfl) ?_
        refine xci (xRunN (rest := []) (As := [.int x5, .int x3]) (k := 2) C0 (c_isIn l E (wX E g a) x5 x3) bw8 nw9 bw13 bw18 hd_X11_isIn ⟨Nat.le_of_ble_eq_true rfl, Nat.le_of_ble_eq_true rfl⟩ hP (wX_D hD) hS rfl hl.1 rfl (Nat.le_of_ble_eq_true rfl) dX2_supported_32 ⟨Nat.zero_le _, Nat.zero_le _⟩) hS (fun H locs hP hS => ?_)
        refine lv_if_eq (tgt := 65) hx hb dX2_supported_35 (by decide) (fun c4 => ?_) (fun c4 => ?_)
        · replace hf := (if_pos c4).symm.trans hf
          refine lv_iinc (v := (x5 + 1)) (lv' := [(5, .int (x5 + 1)), (0, .ref (E.2.1 (24 + 7 * j))), (1, .int x1), (2, .int x2), (3, .int x3), (4, .int x4)]) hx hb dX2_supported_65 hl (k := 5) rfl rfl (by decide) rfl (fun ls hl => ?_)
          refine lv_goto (tgt := 12) hx hb dX2_supported_68 (by decide) ?_
          exact ih x1 x2 x3 x4 (x5 + 1) _ _ _ hP hS (lv_sub hl [1, 2, 3, 4, 5, 0] rfl) hf
        · replace hf := (if_neg c4).symm.trans hf
          refine lv_aload_n hx hb dX2_supported_38 rfl (lv_at hl 0 rfl) ?_
          refine lv_iload_n hx hb dX2_supported_39 rfl (lv_at hl 1 rfl) ?_
          refine lv_iload hx hb dX2_supported_40 (lv_at hl 5 rfl) ?_
          obtain ⟨u5, e6, hf⟩ := bd_some hf
          refine xci (xRunV (rest := []) (As := [.int x1, .int x5]) (C := RX2) (k := 2) C0 (c_X2_isLeft l E j hj g a x1 x5 e6) bw230 bw234 bw86 bw235 bw236 hd_X2_isLeft ⟨Nat.le_of_ble_eq_true rfl, Nat.le_of_ble_eq_true rfl⟩ hP (wX_D hD) hS (va_recv hK hP (ci := 2) rfl (gx_inst E g a j hj)) rfl hl.1 rfl (Nat.le_of_ble_eq_true rfl) dX2_supported_42 ⟨Nat.zero_le _, Nat.zero_le _⟩) hS (fun H locs hP hS => ?_)
          refine lv_if_eq (tgt := 65) hx hb dX2_supported_45 (by decide) (fun c7 => ?_) (fun c7 => ?_)
          · replace hf := (if_pos c7).symm.trans hf
            refine lv_iinc (v := (x5 + 1)) (lv' := [(5, .int (x5 + 1)), (0, .ref (E.2.1 (24 + 7 * j))), (1, .int x1), (2, .int x2), (3, .int x3), (4, .int x4)]) hx hb dX2_supported_65 hl (k := 5) rfl rfl (by decide) rfl (fun ls hl => ?_)
            refine lv_goto (tgt := 12) hx hb dX2_supported_68 (by decide) ?_
            exact ih x1 x2 x3 x4 (x5 + 1) _ _ _ hP hS (lv_sub hl [1, 2, 3, 4, 5, 0] rfl) hf
          · replace hf := (if_neg c7).symm.trans hf
            refine lv_iload hx hb dX2_supported_48 (lv_at hl 4 rfl) ?_
            refine lv_iconst (v := 1) hx hb dX2_supported_50 (by decide) ?_
            refine lv_aload_n hx hb dX2_supported_51 rfl (lv_at hl 0 rfl) ?_
            refine va_get (C := RX2) (T := TX2) (N := 10) hx hb hw bfX20 hown hK hP (24 + 7 * j) (gx_inst E g a j hj) rfl 1 (by decide) (hw _ bw76) (fun _ h9 => h9) rfl dX2_supported_52 ?_
            refine lv_iload hx hb dX2_supported_55 (lv_at hl 5 rfl) ?_
            refine lv_iload_n hx hb dX2_supported_57 rfl (lv_at hl 2 rfl) ?_
            refine xci (xRunV (rest := [.int 1, .int x4]) (As := [.int x5, .int x2]) (C := RX4) (k := 2) C0 (c_X4_digit l E g a x5 x2) bw174 bw225 bw22 bw199 bw200 hd_X4_digit ⟨Nat.le_of_ble_eq_true rfl, Nat.le_of_ble_eq_true rfl⟩ hP (wX_D hD) hS (va_recv hK hP (ci := 4) rfl (gx_1 E g a)) rfl hl.1 rfl (Nat.le_of_ble_eq_true rfl) dX2_supported_58 ⟨Nat.zero_le _, Nat.zero_le _⟩) hS (fun H locs hP hS => ?_)
            refine lv_ishl hx hb dX2_supported_61 ?_
            refine lv_ior hx hb dX2_supported_62 ?_
            refine lv_istore (lv' := [(4, .int (x4 ||| ((1 : Int32) <<< ((t_X4_digit g a x5 x2) &&& 31)))), (0, .ref (E.2.1 (24 + 7 * j))), (1, .int x1), (2, .int x2), (3, .int x3), (5, .int x5)]) hx hb dX2_supported_63 hl (by decide) rfl (fun ls hl => ?_)
            refine lv_iinc (v := (x5 + 1)) (lv' := [(5, .int (x5 + 1)), (4, .int (x4 ||| ((1 : Int32) <<< ((t_X4_digit g a x5 x2) &&& 31)))), (0, .ref (E.2.1 (24 + 7 * j))), (1, .int x1), (2, .int x2), (3, .int x3)]) hx hb dX2_supported_65 hl (k := 5) rfl rfl (by decide) rfl (fun ls hl => ?_)
            refine lv_goto (tgt := 12) hx hb dX2_supported_68 (by decide) ?_
            exact ih x1 x2 x3 (x4 ||| ((1 : Int32) <<< ((t_X4_digit g a x5 x2) &&& 31))) (x5 + 1) _ _ _ hP hS (lv_sub hl [2, 3, 4, 5, 1, 0] rfl) hf
  refine lv_aload_n hx hb dX2_supported_0 rfl (lv_at hl 0 rfl) ?_
  refine lv_iload_n hx hb dX2_supported_1 rfl (lv_at hl 1 rfl) ?_
  obtain ⟨u1, e2, hf⟩ := bd_some hf
  refine xci (xRunV (rest := []) (As := [.int v1]) (C := RX2) (k := 1) C0 (c_X2_standing l E j hj g a v1 e2) bw229 bw231 bw86 bw232 bw233 hd_X2_standing ⟨Nat.le_of_ble_eq_true rfl, Nat.le_of_ble_eq_true rfl⟩ hP (wX_D hD) hS (va_recv hK hP (ci := 2) rfl (gx_inst E g a j hj)) rfl hl.1 rfl (Nat.le_of_ble_eq_true rfl) dX2_supported_2 ⟨Nat.zero_le _, Nat.zero_le _⟩) hS (fun H locs hP hS => ?_)
  refine lv_istore_n (lv' := [(3, .int u1), (0, .ref (E.2.1 (24 + 7 * j))), (1, .int v1), (2, .int v2)]) hx hb dX2_supported_5 rfl hl (by decide) rfl (fun ls hl => ?_)
  refine lv_iconst (v := 0) hx hb dX2_supported_6 (by decide) ?_
  refine lv_istore (lv' := [(4, .int 0), (3, .int u1), (0, .ref (E.2.1 (24 + 7 * j))), (1, .int v1), (2, .int v2)]) hx hb dX2_supported_7 hl (by decide) rfl (fun ls hl => ?_)
  refine lv_iconst (v := 0) hx hb dX2_supported_9 (by decide) ?_
  refine lv_istore (lv' := [(5, .int 0), (4, .int 0), (3, .int u1), (0, .ref (E.2.1 (24 + 7 * j))), (1, .int v1), (2, .int v2)]) hx hb dX2_supported_10 hl (by decide) rfl (fun ls hl => ?_)
  exact B12 fu v1 v2 u1 0 0 _ _ _ hP hS (lv_sub hl [3, 4, 5, 2, 1, 0] rfl) hf
def f_X2_isSomethingTakenAway_14 (j : Nat) (g : xG) (K4 : xA → Int32 → Int32 → Option (Int32 × xA)) : Nat → xA → Int32 → Int32 → Int32 → Option (Int32 × xA)
  | 0, _, _, _, _ => none
  | n + 1, a, x1, x2, x3 => (if (t_X2_placesOf j g a x2) ≤ x3 then K4 a x1 (x2 + 1) else Option.bind (f_X2_supported j g a x2 x3) (fun u4 => (if ((atF 6 (a (29 + 7 * j)) (t_X2_variableOn j g a x2 x3)) &&& u4) = (atF 6 (a (29 + 7 * j)) (t_X2_variableOn j g a x2 x3)) then f_X2_isSomethingTakenAway_14 j g K4 n a x1 x2 (x3 + 1) else f_X2_isSomethingTakenAway_14 j g K4 n (upA a (29 + 7 * j) (putF 6 (a (29 + 7 * j)) (t_X2_variableOn j g a x2 x3) ((atF 6 (a (29 + 7 * j)) (t_X2_variableOn j g a x2 x3)) &&& u4))) 1 x2 (x3 + 1))))
theorem e_X2_isSomethingTakenAway_14 (j : Nat) (g : xG) (K4 : xA → Int32 → Int32 → Option (Int32 × xA)) (n : Nat) (a : xA) (x1 : Int32) (x2 : Int32) (x3 : Int32) : f_X2_isSomethingTakenAway_14 j g K4 (n + 1) a x1 x2 x3 = (if (t_X2_placesOf j g a x2) ≤ x3 then K4 a x1 (x2 + 1) else Option.bind (f_X2_supported j g a x2 x3) (fun u4 => (if ((atF 6 (a (29 + 7 * j)) (t_X2_variableOn j g a x2 x3)) &&& u4) = (atF 6 (a (29 + 7 * j)) (t_X2_variableOn j g a x2 x3)) then f_X2_isSomethingTakenAway_14 j g K4 n a x1 x2 (x3 + 1) else f_X2_isSomethingTakenAway_14 j g K4 n (upA a (29 + 7 * j) (putF 6 (a (29 + 7 * j)) (t_X2_variableOn j g a x2 x3) ((atF 6 (a (29 + 7 * j)) (t_X2_variableOn j g a x2 x3)) &&& u4))) 1 x2 (x3 + 1)))) := rfl
def f_X2_isSomethingTakenAway_4 (j : Nat) (g : xG) : Nat → xA → Int32 → Int32 → Option (Int32 × xA)
  | 0, _, _, _ => none
  | n + 1, a, x1, x2 => (if (g (11 + 2 * j)) ≤ x2 then ck (boB x1) (some (x1, a)) else f_X2_isSomethingTakenAway_14 j g (f_X2_isSomethingTakenAway_4 j g n) fu a x1 x2 0)
theorem e_X2_isSomethingTakenAway_4 (j : Nat) (g : xG) (n : Nat) (a : xA) (x1 : Int32) (x2 : Int32) : f_X2_isSomethingTakenAway_4 j g (n + 1) a x1 x2 = (if (g (11 + 2 * j)) ≤ x2 then ck (boB x1) (some (x1, a)) else f_X2_isSomethingTakenAway_14 j g (f_X2_isSomethingTakenAway_4 j g n) fu a x1 x2 0) := rfl
def f_X2_isSomethingTakenAway (j : Nat) (g : xG) (a : xA) : Option (Int32 × xA) := f_X2_isSomethingTakenAway_4 j g fu a 0 0
set_option maxRecDepth 100000 in
set_option maxHeartbeats 40000000 in
theorem c_X2_isSomethingTakenAway (l : Launch) (E : xE) (j : Nat) (hj : j < 2) (g : xG) (a : xA) {res : Int32 × xA} (hf : f_X2_isSomethingTakenAway j g a = some res) : xM l E yX2_isSomethingTakenAway cX2_isSomethingTakenAway 7 (some .boolean) 5 116 [.ref (E.2.1 (24 + 7 * j))] (wX E g a) (xQi E res.1 (wX E g res.2)) := by
  unfold f_X2_isSomethingTakenAway at hf
  refine xM_of (by decide) (Nat.le_of_ble_eq_true rfl) ?_
  intro p e s m below meth c A hx hb hr hml hts hown hlocks hA hD hP hK hN hS ls hl
  have hw : ∀ w ∈ BW, w.before _ s = true := fun w h => hts w (List.mem_cons_of_mem _ h)
  have C0 : xCtx E p m c cX2_isSomethingTakenAway 7 s _ RX2 A yX2_isSomethingTakenAway cX2_isSomethingTakenAway 7 (some .boolean) := ⟨hx, hb, hml, hown, hts, hA, hK, hN⟩
  have hl : lv_has ls 7 [(0, .ref (E.2.1 (24 + 7 * j)))] := hl
  have B14 : ∀ (K4 : xA → Int32 → Int32 → Option (Int32 × xA)) (hK4 : ∀ (a : xA) (x1 : Int32) (x2 : Int32) (H : Heap) (locs : List Loc) (ls : Array Slot), va_P E.1 vwCl (wX E g a) H → va_S A s.heap H locs → lv_has ls 7 [(0, .ref (E.2.1 (24 + 7 * j))), (1, .int x1), (2, .int x2)] → K4 a x1 x2 = some res → W p l e ({ frames := 5, cells := 0, slots := 0, locals := 116 }) s m ([.ref (E.2.1 (24 + 7 * j))] : List Value).toArray below meth c H locs 0 0 (MQ below ((xQi E res.1 (wX E g res.2)) A) ([.ref (E.2.1 (24 + 7 * j))] : List Value).toArray s 0 0 A) (F0 m 4 ls [])) (n : Nat) (a : xA) (x1 : Int32) (x2 : Int32) (x3 : Int32) (H : Heap) (locs : List Loc) (ls : Array Slot), va_P E.1 vwCl (wX E g a) H → va_S A s.heap H locs → lv_has ls 7 [(0, .ref (E.2.1 (24 + 7 * j))), (1, .int x1), (2, .int x2), (3, .int x3)] → f_X2_isSomethingTakenAway_14 j g K4 n a x1 x2 x3 = some res → W p l e ({ frames := 5, cells := 0, slots := 0, locals := 116 }) s m ([.ref (E.2.1 (24 + 7 * j))] : List Value).toArray below meth c H locs 0 0 (MQ below ((xQi E res.1 (wX E g res.2)) A) ([.ref (E.2.1 (24 + 7 * j))] : List Value).toArray s 0 0 A) (F0 m 14 ls []) := by
    intro K4 hK4 n
    induction n with
    | zero => intro a x1 x2 x3 H locs ls hP hS hl hf; exact absurd (show (none : Option (Int32 × xA)) = some res from hf) (by intro h; cases h)
    | succ n ih =>
      intro a x1 x2 x3 H locs ls hP hS hl hf
      replace hf := (e_X2_isSomethingTakenAway_14 j g K4 n a x1 x2 x3).symm.trans hf
      refine lv_iload_n hx hb dX2_isSomethingTakenAway_14 rfl (lv_at hl 3 rfl) ?_
      refine lv_aload_n hx hb dX2_isSomethingTakenAway_15 rfl (lv_at hl 0 rfl) ?_
      refine lv_iload_n hx hb dX2_isSomethingTakenAway_16 rfl (lv_at hl 2 rfl) ?_
      refine xci (xRunV (rest := [.int x3]) (As := [.int x2]) (C := RX2) (k := 1) C0 (c_X2_placesOf l E j hj g a x2) bw119 bw126 bw86 bw127 bw128 hd_X2_placesOf ⟨Nat.le_of_ble_eq_true rfl, Nat.le_of_ble_eq_true rfl⟩ hP (wX_D hD) hS (va_recv hK hP (ci := 2) rfl (gx_inst E g a j hj)) rfl hl.1 rfl (Nat.le_of_ble_eq_true rfl) dX2_isSomethingTakenAway_17 ⟨Nat.zero_le _, Nat.zero_le _⟩) hS (fun H locs hP hS => ?_)
      refine lv_icmp_ge (tgt := 79) hx hb dX2_isSomethingTakenAway_20 (by decide) (fun c3 => ?_) (fun c3 => ?_)
      · replace hf := (if_pos c3).symm.trans hf
        refine lv_iinc (v := (x2 + 1)) (lv' := [(2, .int (x2 + 1)), (0, .ref (E.2.1 (24 + 7 * j))), (1, .int x1), (3, .int x3)]) hx hb dX2_isSomethingTakenAway_79 hl (k := 2) rfl rfl (by decide) rfl (fun ls hl => ?_)
        refine lv_goto (tgt := 4) hx hb dX2_isSomethingTakenAway_82 (by decide) ?_
        exact hK4 a x1 (x2 + 1) _ _ _ hP hS (lv_sub hl [1, 2, 0] rfl) hf
      · replace hf := (if_neg c3).symm.trans hf
        refine lv_aload_n hx hb dX2_isSomethingTakenAway_23 rfl (lv_at hl 0 rfl) ?_
        refine lv_iload_n hx hb dX2_isSomethingTakenAway_24 rfl (lv_at hl 2 rfl) ?_
        refine lv_iload_n hx hb dX2_isSomethingTakenAway_25 rfl (lv_at hl 3 rfl) ?_
        refine xci (xRunV (rest := []) (As := [.int x2, .int x3]) (C := RX2) (k := 2) C0 (c_X2_variableOn l E j hj g a x2 x3) bw120 bw129 bw86 bw130 bw131 hd_X2_variableOn ⟨Nat.le_of_ble_eq_true rfl, Nat.le_of_ble_eq_true rfl⟩ hP (wX_D hD) hS (va_recv hK hP (ci := 2) rfl (gx_inst E g a j hj)) rfl hl.1 rfl (Nat.le_of_ble_eq_true rfl) dX2_isSomethingTakenAway_26 ⟨Nat.zero_le _, Nat.zero_le _⟩) hS (fun H locs hP hS => ?_)
        refine lv_istore (lv' := [(4, .int (t_X2_variableOn j g a x2 x3)), (0, .ref (E.2.1 (24 + 7 * j))), (1, .int x1), (2, .int x2), (3, .int x3)]) hx hb dX2_isSomethingTakenAway_29 hl (by decide) rfl (fun ls hl => ?_)
        refine lv_aload_n hx hb dX2_isSomethingTakenAway_31 rfl (lv_at hl 1 rfl) ?_
        refine va_get (C := RX2) (T := TX2) (N := 10) hx hb hw bfX20 hown hK hP (24 + 7 * j) (gx_inst E g a j hj) rfl 8 (by decide) (hw _ bw74) (fun _ h9 => h9) rfl dX2_isSomethingTakenAway_32 ?_
        refine lv_iload hx hb dX2_isSomethingTakenAway_35 (lv_at hl 0 rfl) ?_
        refine xci (xRunN (rest := []) (As := [.ref (E.2.1 (29 + 7 * j)), .int (t_X2_variableOn j g a x2 x3)]) (k := 2) C0 (c_at l E (wX E g a) (29 + 7 * j) (t_X2_variableOn j g a x2 x3) (gx_ia29 E g a j hj) (Nat.le_of_ble_eq_true rfl)) bw9 nw8 bw13 bw12 hd_X11_at ⟨Nat.le_of_ble_eq_true rfl, Nat.le_of_ble_eq_true rfl⟩ hP (wX_D hD) hS rfl hl.1 rfl (Nat.le_of_ble_eq_true rfl) dX2_isSomethingTakenAway_37 ⟨Nat.zero_le _, Nat.zero_le _⟩) hS (fun H locs hP hS => ?_)
        refine lv_istore (lv' := [(5, .int (atF 6 (a (29 + 7 * j)) (t_X2_variableOn j g a x2 x3))), (4, .int (t_X2_variableOn j g a x2 x3)), (0, .ref (E.2.1 (24 + 7 * j))), (1, .int x1), (2, .int x2), (3, .int x3)]) hx hb dX2_isSomethingTakenAway_40 hl (by decide) rfl (fun ls hl => ?_)
        refine lv_iload hx hb dX2_isSomethingTakenAway_42 (lv_at hl 0 rfl) ?_
        refine lv_aload_n hx hb dX2_isSomethingTakenAway_44 rfl (lv_at hl 2 rfl) ?_
        refine lv_iload_n hx hb dX2_isSomethingTakenAway_45 rfl (lv_at hl 4 rfl) ?_
        refine lv_iload_n hx hb dX2_isSomethingTakenAway_46 rfl (lv_at hl 5 rfl) ?_
        obtain ⟨u4, e5, hf⟩ := bd_some hf
        refine xci (xRunV (rest := [.int (atF 6 (a (29 + 7 * j)) (t_X2_variableOn j g a x2 x3))]) (As := [.int x2, .int x3]) (C := RX2) (k := 2) C0 (c_X2_supported l E j hj g a x2 x3 e5) bw237 bw238 bw86 bw239 bw240 hd_X2_supported ⟨Nat.le_of_ble_eq_true rfl, Nat.le_of_ble_eq_true rfl⟩ hP (wX_D hD) hS (va_recv hK hP (ci := 2) rfl (gx_inst E g a j hj)) rfl hl.1 rfl (Nat.le_of_ble_eq_true rfl) dX2_isSomethingTakenAway_47 ⟨Nat.zero_le _, Nat.zero_le _⟩) hS (fun H locs hP hS => ?_)
        refine lv_iand hx hb dX2_isSomethingTakenAway_50 ?_
        refine lv_istore (lv' := [(6, .int ((atF 6 (a (29 + 7 * j)) (t_X2_variableOn j g a x2 x3)) &&& u4)), (5, .int (atF 6 (a (29 + 7 * j)) (t_X2_variableOn j g a x2 x3))), (4, .int (t_X2_variableOn j g a x2 x3)), (0, .ref (E.2.1 (24 + 7 * j))), (1, .int x1), (2, .int x2), (3, .int x3)]) hx hb dX2_isSomethingTakenAway_51 hl (by decide) rfl (fun ls hl => ?_)
        refine lv_iload hx hb dX2_isSomethingTakenAway_53 (lv_at hl 0 rfl) ?_
        refine lv_iload hx hb dX2_isSomethingTakenAway_55 (lv_at hl 1 rfl) ?_
        refine lv_icmp_eq (tgt := 73) hx hb dX2_isSomethingTakenAway_57 (by decide) (fun c6 => ?_) (fun c6 => ?_)
        · replace hf := (if_pos c6).symm.trans hf
          refine lv_iinc (v := (x3 + 1)) (lv' := [(3, .int (x3 + 1)), (6, .int ((atF 6 (a (29 + 7 * j)) (t_X2_variableOn j g a x2 x3)) &&& u4)), (5, .int (atF 6 (a (29 + 7 * j)) (t_X2_variableOn j g a x2 x3))), (4, .int (t_X2_variableOn j g a x2 x3)), (0, .ref (E.2.1 (24 + 7 * j))), (1, .int x1), (2, .int x2)]) hx hb dX2_isSomethingTakenAway_73 hl (k := 6) rfl rfl (by decide) rfl (fun ls hl => ?_)
          refine lv_goto (tgt := 14) hx hb dX2_isSomethingTakenAway_76 (by decide) ?_
          exact ih a x1 x2 (x3 + 1) _ _ _ hP hS (lv_sub hl [4, 5, 6, 0] rfl) hf
        · replace hf := (if_neg c6).symm.trans hf
          refine lv_aload_n hx hb dX2_isSomethingTakenAway_60 rfl (lv_at hl 3 rfl) ?_
          refine va_get (C := RX2) (T := TX2) (N := 10) hx hb hw bfX20 hown hK hP (24 + 7 * j) (gx_inst E g a j hj) rfl 8 (by decide) (hw _ bw74) (fun _ h9 => h9) rfl dX2_isSomethingTakenAway_61 ?_
          refine lv_iload hx hb dX2_isSomethingTakenAway_64 (lv_at hl 2 rfl) ?_
          refine lv_iload hx hb dX2_isSomethingTakenAway_66 (lv_at hl 0 rfl) ?_
          refine xcv (xRunN (rest := []) (As := [.ref (E.2.1 (29 + 7 * j)), .int (t_X2_variableOn j g a x2 x3), .int ((atF 6 (a (29 + 7 * j)) (t_X2_variableOn j g a x2 x3)) &&& u4)]) (k := 3) C0 (c_put l E (wX E g a) (29 + 7 * j) (t_X2_variableOn j g a x2 x3) ((atF 6 (a (29 + 7 * j)) (t_X2_variableOn j g a x2 x3)) &&& u4) (gx_ia29 E g a j hj) (Nat.le_of_ble_eq_true rfl) (sx_ia29 E g a j hj (putF 6 (a (29 + 7 * j)) (t_X2_variableOn j g a x2 x3) ((atF 6 (a (29 + 7 * j)) (t_X2_variableOn j g a x2 x3)) &&& u4)))) bw14 nw7 bw13 bw23 hd_X11_put ⟨Nat.le_of_ble_eq_true rfl, Nat.le_of_ble_eq_true rfl⟩ hP (wX_D hD) hS rfl hl.1 rfl (Nat.le_of_ble_eq_true rfl) dX2_isSomethingTakenAway_68 ⟨Nat.zero_le _, Nat.zero_le _⟩) hS (fun H locs hP hS => ?_)
          refine lv_iconst (v := 1) hx hb dX2_isSomethingTakenAway_71 (by decide) ?_
          refine lv_istore_n (lv' := [(1, .int 1), (6, .int ((atF 6 (a (29 + 7 * j)) (t_X2_variableOn j g a x2 x3)) &&& u4)), (5, .int (atF 6 (a (29 + 7 * j)) (t_X2_variableOn j g a x2 x3))), (4, .int (t_X2_variableOn j g a x2 x3)), (0, .ref (E.2.1 (24 + 7 * j))), (2, .int x2), (3, .int x3)]) hx hb dX2_isSomethingTakenAway_72 rfl hl (by decide) rfl (fun ls hl => ?_)
          refine lv_iinc (v := (x3 + 1)) (lv' := [(3, .int (x3 + 1)), (1, .int 1), (6, .int ((atF 6 (a (29 + 7 * j)) (t_X2_variableOn j g a x2 x3)) &&& u4)), (5, .int (atF 6 (a (29 + 7 * j)) (t_X2_variableOn j g a x2 x3))), (4, .int (t_X2_variableOn j g a x2 x3)), (0, .ref (E.2.1 (24 + 7 * j))), (2, .int x2)]) hx hb dX2_isSomethingTakenAway_73 hl (k := 6) rfl rfl (by decide) rfl (fun ls hl => ?_)
          refine lv_goto (tgt := 14) hx hb dX2_isSomethingTakenAway_76 (by decide) ?_
          exact ih (upA a (29 + 7 * j) (putF 6 (a (29 + 7 * j)) (t_X2_variableOn j g a x2 x3) ((atF 6 (a (29 + 7 * j)) (t_X2_variableOn j g a x2 x3)) &&& u4))) 1 x2 (x3 + 1) _ _ _ hP hS (lv_sub hl [5, 1, 6, 0] rfl) hf
  have B4 : ∀ (n : Nat) (a : xA) (x1 : Int32) (x2 : Int32) (H : Heap) (locs : List Loc) (ls : Array Slot), va_P E.1 vwCl (wX E g a) H → va_S A s.heap H locs → lv_has ls 7 [(0, .ref (E.2.1 (24 + 7 * j))), (1, .int x1), (2, .int x2)] → f_X2_isSomethingTakenAway_4 j g n a x1 x2 = some res → W p l e ({ frames := 5, cells := 0, slots := 0, locals := 116 }) s m ([.ref (E.2.1 (24 + 7 * j))] : List Value).toArray below meth c H locs 0 0 (MQ below ((xQi E res.1 (wX E g res.2)) A) ([.ref (E.2.1 (24 + 7 * j))] : List Value).toArray s 0 0 A) (F0 m 4 ls []) := by
    intro n
    induction n with
    | zero => intro a x1 x2 H locs ls hP hS hl hf; exact absurd (show (none : Option (Int32 × xA)) = some res from hf) (by intro h; cases h)
    | succ n ih =>
      intro a x1 x2 H locs ls hP hS hl hf
      replace hf := (e_X2_isSomethingTakenAway_4 j g n a x1 x2).symm.trans hf
      refine lv_iload_n hx hb dX2_isSomethingTakenAway_4 rfl (lv_at hl 2 rfl) ?_
      refine lv_aload_n hx hb dX2_isSomethingTakenAway_5 rfl (lv_at hl 0 rfl) ?_
      refine va_get (C := RX2) (T := TX2) (N := 10) hx hb hw bfX20 hown hK hP (24 + 7 * j) (gx_inst E g a j hj) rfl 0 (by decide) (hw _ bw92) (fun _ h9 => h9) rfl dX2_isSomethingTakenAway_6 ?_
      refine lv_icmp_ge (tgt := 85) hx hb dX2_isSomethingTakenAway_9 (by decide) (fun c1 => ?_) (fun c1 => ?_)
      · replace hf := (if_pos c1).symm.trans hf
        refine lv_iload_n hx hb dX2_isSomethingTakenAway_85 rfl (lv_at hl 1 rfl) ?_
        obtain ⟨k2, hf⟩ := ck_some hf
        exact xz_retS (fr := (fun r => r.1)) (fw := (fun r => wX E g r.2)) hx hb hr hlocks (Option.some.inj hf) (boB_bo k2) hP hS dX2_isSomethingTakenAway_86
      · replace hf := (if_neg c1).symm.trans hf
        refine lv_iconst (v := 0) hx hb dX2_isSomethingTakenAway_12 (by decide) ?_
        refine lv_istore_n (lv' := [(3, .int 0), (0, .ref (E.2.1 (24 + 7 * j))), (1, .int x1), (2, .int x2)]) hx hb dX2_isSomethingTakenAway_13 rfl hl (by decide) rfl (fun ls hl => ?_)
        exact B14 (f_X2_isSomethingTakenAway_4 j g n) ih fu a x1 x2 0 _ _ _ hP hS (lv_sub hl [1, 2, 3, 0] rfl) hf
  refine lv_iconst (v := 0) hx hb dX2_isSomethingTakenAway_0 (by decide) ?_
  refine lv_istore_n (lv' := [(1, .int 0), (0, .ref (E.2.1 (24 + 7 * j)))]) hx hb dX2_isSomethingTakenAway_1 rfl hl (by decide) rfl (fun ls hl => ?_)
  refine lv_iconst (v := 0) hx hb dX2_isSomethingTakenAway_2 (by decide) ?_
  refine lv_istore_n (lv' := [(2, .int 0), (1, .int 0), (0, .ref (E.2.1 (24 + 7 * j)))]) hx hb dX2_isSomethingTakenAway_3 rfl hl (by decide) rfl (fun ls hl => ?_)
  exact B4 fu a 0 0 _ _ _ hP hS (lv_sub hl [2, 1, 0] rfl) hf
def f_X2_valuesLeft_28 (j : Nat) (g : xG) (a : xA) (x1 : Int32) : Option (Int32 × xA) := some ((atF 6 (a (29 + 7 * j)) x1), a)
def f_X2_valuesLeft_6 (j : Nat) (g : xG) : Nat → xA → Int32 → Int32 → Option (Int32 × xA)
  | 0, _, _, _ => none
  | n + 1, a, x1, x2 => (if 18 < x2 then f_X2_valuesLeft_28 j g a x1 else Option.bind (f_X2_isSomethingTakenAway j g a) (fun u4 => (if u4.1 = 0 then f_X2_valuesLeft_28 j g u4.2 x1 else f_X2_valuesLeft_6 j g n u4.2 x1 (x2 + 1))))
theorem e_X2_valuesLeft_6 (j : Nat) (g : xG) (n : Nat) (a : xA) (x1 : Int32) (x2 : Int32) : f_X2_valuesLeft_6 j g (n + 1) a x1 x2 = (if 18 < x2 then f_X2_valuesLeft_28 j g a x1 else Option.bind (f_X2_isSomethingTakenAway j g a) (fun u4 => (if u4.1 = 0 then f_X2_valuesLeft_28 j g u4.2 x1 else f_X2_valuesLeft_6 j g n u4.2 x1 (x2 + 1)))) := rfl
def f_X2_valuesLeft (j : Nat) (g : xG) (a : xA) (v1 : Int32) : Option (Int32 × xA) := Option.bind (f_X2_allowAll j g a) (fun u1 => f_X2_valuesLeft_6 j g fu u1 v1 0)
set_option maxRecDepth 100000 in
set_option maxHeartbeats 40000000 in
theorem c_X2_valuesLeft (l : Launch) (E : xE) (j : Nat) (hj : j < 2) (g : xG) (a : xA) (v1 : Int32) {res : Int32 × xA} (hf : f_X2_valuesLeft j g a v1 = some res) : xM l E yX2_valuesLeft cX2_valuesLeft 3 (some .int) 6 142 [.ref (E.2.1 (24 + 7 * j)), .int v1] (wX E g a) (xQi E res.1 (wX E g res.2)) := by
  unfold f_X2_valuesLeft at hf
  refine xM_of (by decide) (Nat.le_of_ble_eq_true rfl) ?_
  intro p e s m below meth c A hx hb hr hml hts hown hlocks hA hD hP hK hN hS ls hl
  have hw : ∀ w ∈ BW, w.before _ s = true := fun w h => hts w (List.mem_cons_of_mem _ h)
  have C0 : xCtx E p m c cX2_valuesLeft 3 s _ RX2 A yX2_valuesLeft cX2_valuesLeft 3 (some .int) := ⟨hx, hb, hml, hown, hts, hA, hK, hN⟩
  have hl : lv_has ls 3 [(0, .ref (E.2.1 (24 + 7 * j))), (1, .int v1)] := hl
  have B28 : ∀ (a : xA) (x1 : Int32) (H : Heap) (locs : List Loc) (ls : Array Slot), va_P E.1 vwCl (wX E g a) H → va_S A s.heap H locs → lv_has ls 3 [(0, .ref (E.2.1 (24 + 7 * j))), (1, .int x1)] → f_X2_valuesLeft_28 j g a x1 = some res → W p l e ({ frames := 6, cells := 0, slots := 0, locals := 142 }) s m ([.ref (E.2.1 (24 + 7 * j)), .int v1] : List Value).toArray below meth c H locs 0 0 (MQ below ((xQi E res.1 (wX E g res.2)) A) ([.ref (E.2.1 (24 + 7 * j)), .int v1] : List Value).toArray s 0 0 A) (F0 m 28 ls []) := by
    intro a x1 H locs ls hP hS hl hf
    unfold f_X2_valuesLeft_28 at hf
    refine lv_aload_n hx hb dX2_valuesLeft_28 rfl (lv_at hl 0 rfl) ?_
    refine va_get (C := RX2) (T := TX2) (N := 10) hx hb hw bfX20 hown hK hP (24 + 7 * j) (gx_inst E g a j hj) rfl 8 (by decide) (hw _ bw74) (fun _ h9 => h9) rfl dX2_valuesLeft_29 ?_
    refine lv_iload_n hx hb dX2_valuesLeft_32 rfl (lv_at hl 1 rfl) ?_
    refine xci (xRunN (rest := []) (As := [.ref (E.2.1 (29 + 7 * j)), .int x1]) (k := 2) C0 (c_at l E (wX E g a) (29 + 7 * j) x1 (gx_ia29 E g a j hj) (Nat.le_of_ble_eq_true rfl)) bw9 nw8 bw13 bw12 hd_X11_at ⟨Nat.le_of_ble_eq_true rfl, Nat.le_of_ble_eq_true rfl⟩ hP (wX_D hD) hS rfl hl.1 rfl (Nat.le_of_ble_eq_true rfl) dX2_valuesLeft_33 ⟨Nat.zero_le _, Nat.zero_le _⟩) hS (fun H locs hP hS => ?_)
    exact xi_retS (fr := (fun r => r.1)) (fw := (fun r => wX E g r.2)) hx hb hr hlocks (Option.some.inj hf) hP hS dX2_valuesLeft_36
  have B6 : ∀ (n : Nat) (a : xA) (x1 : Int32) (x2 : Int32) (H : Heap) (locs : List Loc) (ls : Array Slot), va_P E.1 vwCl (wX E g a) H → va_S A s.heap H locs → lv_has ls 3 [(0, .ref (E.2.1 (24 + 7 * j))), (1, .int x1), (2, .int x2)] → f_X2_valuesLeft_6 j g n a x1 x2 = some res → W p l e ({ frames := 6, cells := 0, slots := 0, locals := 142 }) s m ([.ref (E.2.1 (24 + 7 * j)), .int v1] : List Value).toArray below meth c H locs 0 0 (MQ below ((xQi E res.1 (wX E g res.2)) A) ([.ref (E.2.1 (24 + 7 * j)), .int v1] : List Value).toArray s 0 0 A) (F0 m 6 ls []) := by
    intro n
    induction n with
    | zero => intro a x1 x2 H locs ls hP hS hl hf; exact absurd (show (none : Option (Int32 × xA)) = some res from hf) (by intro h; cases h)
    | succ n ih =>
      intro a x1 x2 H locs ls hP hS hl hf
      replace hf := (e_X2_valuesLeft_6 j g n a x1 x2).symm.trans hf
      refine lv_iload_n hx hb dX2_valuesLeft_6 rfl (lv_at hl 2 rfl) ?_
      refine lv_bipush (v := 18) hx hb dX2_valuesLeft_7 (by decide) ?_
      refine lv_icmp_gt (tgt := 28) hx hb dX2_valuesLeft_9 (by decide) (fun c3 => ?_) (fun c3 => ?_)
      · replace hf := (if_pos c3).symm.trans hf
        exact B28 a x1 _ _ _ hP hS (lv_sub hl [0, 1] rfl) hf
      · replace hf := (if_neg c3).symm.trans hf
        refine lv_aload_n hx hb dX2_valuesLeft_12 rfl (lv_at hl 0 rfl) ?_
        obtain ⟨u4, e5, hf⟩ := bd_some hf
        refine xci (xRunV (rest := []) (As := []) (C := RX2) (k := 0) C0 (c_X2_isSomethingTakenAway l E j hj g a e5) bw241 bw242 bw86 bw243 bw244 hd_X2_isSomethingTakenAway ⟨Nat.le_of_ble_eq_true rfl, Nat.le_of_ble_eq_true rfl⟩ hP (wX_D hD) hS (va_recv hK hP (ci := 2) rfl (gx_inst E g a j hj)) rfl hl.1 rfl (Nat.le_of_ble_eq_true rfl) dX2_valuesLeft_13 ⟨Nat.zero_le _, Nat.zero_le _⟩) hS (fun H locs hP hS => ?_)
        refine lv_if_ne (tgt := 22) hx hb dX2_valuesLeft_16 (by decide) (fun c6 => ?_) (fun c6 => ?_)
        · replace hf := (if_neg c6).symm.trans hf
          refine lv_iinc (v := (x2 + 1)) (lv' := [(2, .int (x2 + 1)), (0, .ref (E.2.1 (24 + 7 * j))), (1, .int x1)]) hx hb dX2_valuesLeft_22 hl (k := 2) rfl rfl (by decide) rfl (fun ls hl => ?_)
          refine lv_goto (tgt := 6) hx hb dX2_valuesLeft_25 (by decide) ?_
          exact ih u4.2 x1 (x2 + 1) _ _ _ hP hS (lv_sub hl [1, 2, 0] rfl) hf
        · replace hf := (if_pos c6).symm.trans hf
          refine lv_goto (tgt := 28) hx hb dX2_valuesLeft_19 (by decide) ?_
          exact B28 u4.2 x1 _ _ _ hP hS (lv_sub hl [0, 1] rfl) hf
  refine lv_aload_n hx hb dX2_valuesLeft_0 rfl (lv_at hl 0 rfl) ?_
  obtain ⟨u1, e2, hf⟩ := bd_some hf
  refine xcv (xRunV (rest := []) (As := []) (C := RX2) (k := 0) C0 (c_X2_allowAll l E j hj g a e2) bw170 bw210 bw86 bw196 bw197 hd_X2_allowAll ⟨Nat.le_of_ble_eq_true rfl, Nat.le_of_ble_eq_true rfl⟩ hP (wX_D hD) hS (va_recv hK hP (ci := 2) rfl (gx_inst E g a j hj)) rfl hl.1 rfl (Nat.le_of_ble_eq_true rfl) dX2_valuesLeft_1 ⟨Nat.zero_le _, Nat.zero_le _⟩) hS (fun H locs hP hS => ?_)
  refine lv_iconst (v := 0) hx hb dX2_valuesLeft_4 (by decide) ?_
  refine lv_istore_n (lv' := [(2, .int 0), (0, .ref (E.2.1 (24 + 7 * j))), (1, .int v1)]) hx hb dX2_valuesLeft_5 rfl hl (by decide) rfl (fun ls hl => ?_)
  exact B6 fu u1 v1 0 _ _ _ hP hS (lv_sub hl [1, 2, 0] rfl) hf
def f_X3_triedKeepsAll_2 : Nat → xG → xA → Int32 → Option (Int32 × xG × xA)
  | 0, _, _, _ => none
  | n + 1, g, a, x1 => (if (g 1) ≤ x1 then some (1, g, a) else Option.bind (f_X0_strays 6 g a (t_X10_placesOf g a x1) (t_X10_tuplesOf g a x1)) (fun u2 => (if u2.1 = 0 then f_X3_triedKeepsAll_2 n u2.2.1 u2.2.2 (x1 + 1) else some (0, u2.2.1, u2.2.2))))
theorem e_X3_triedKeepsAll_2 (n : Nat) (g : xG) (a : xA) (x1 : Int32) : f_X3_triedKeepsAll_2 (n + 1) g a x1 = (if (g 1) ≤ x1 then some (1, g, a) else Option.bind (f_X0_strays 6 g a (t_X10_placesOf g a x1) (t_X10_tuplesOf g a x1)) (fun u2 => (if u2.1 = 0 then f_X3_triedKeepsAll_2 n u2.2.1 u2.2.2 (x1 + 1) else some (0, u2.2.1, u2.2.2)))) := rfl
def f_X3_triedKeepsAll (g : xG) (a : xA) : Option (Int32 × xG × xA) := f_X3_triedKeepsAll_2 fu g a 0
set_option maxRecDepth 100000 in
set_option maxHeartbeats 40000000 in
theorem c_X3_triedKeepsAll (l : Launch) (E : xE) (g : xG) (a : xA) {res : Int32 × xG × xA} (hf : f_X3_triedKeepsAll g a = some res) : xM l E yX3_triedKeepsAll cX3_triedKeepsAll 2 (some .boolean) 5 115 [.ref (E.2.1 13)] (wX E g a) (xQi E res.1 (wX E res.2.1 res.2.2)) := by
  unfold f_X3_triedKeepsAll at hf
  refine xM_of (by decide) (Nat.le_of_ble_eq_true rfl) ?_
  intro p e s m below meth c A hx hb hr hml hts hown hlocks hA hD hP hK hN hS ls hl
  have hw : ∀ w ∈ BW, w.before _ s = true := fun w h => hts w (List.mem_cons_of_mem _ h)
  have C0 : xCtx E p m c cX3_triedKeepsAll 2 s _ RX3 A yX3_triedKeepsAll cX3_triedKeepsAll 2 (some .boolean) := ⟨hx, hb, hml, hown, hts, hA, hK, hN⟩
  have hl : lv_has ls 2 [(0, .ref (E.2.1 13))] := hl
  have B2 : ∀ (n : Nat) (g : xG) (a : xA) (x1 : Int32) (H : Heap) (locs : List Loc) (ls : Array Slot), va_P E.1 vwCl (wX E g a) H → va_S A s.heap H locs → lv_has ls 2 [(0, .ref (E.2.1 13)), (1, .int x1)] → f_X3_triedKeepsAll_2 n g a x1 = some res → W p l e ({ frames := 5, cells := 0, slots := 0, locals := 115 }) s m ([.ref (E.2.1 13)] : List Value).toArray below meth c H locs 0 0 (MQ below ((xQi E res.1 (wX E res.2.1 res.2.2)) A) ([.ref (E.2.1 13)] : List Value).toArray s 0 0 A) (F0 m 2 ls []) := by
    intro n
    induction n with
    | zero => intro g a x1 H locs ls hP hS hl hf; exact absurd (show (none : Option (Int32 × xG × xA)) = some res from hf) (by intro h; cases h)
    | succ n ih =>
      intro g a x1 H locs ls hP hS hl hf
      replace hf := (e_X3_triedKeepsAll_2 n g a x1).symm.trans hf
      refine lv_iload_n hx hb dX3_triedKeepsAll_2 rfl (lv_at hl 1 rfl) ?_
      refine lv_aload_n hx hb dX3_triedKeepsAll_3 rfl (lv_at hl 0 rfl) ?_
      refine va_get (C := RX3) (T := TX3) (N := 5) hx hb hw bfX30 hown hK hP 13 (gx_13 E g a) rfl 1 (by decide) (hw _ bw259) (fun _ h9 => h9) rfl dX3_triedKeepsAll_4 ?_
      refine va_get (C := RX10) (T := TX10) (N := 4) hx hb hw bfX100 hown hK hP 4 (gx_4 E g a) rfl 0 (by decide) (hw _ bw273) (fun _ h9 => h9) rfl dX3_triedKeepsAll_7 ?_
      refine lv_icmp_ge (tgt := 51) hx hb dX3_triedKeepsAll_10 (by decide) (fun c1 => ?_) (fun c1 => ?_)
      · replace hf := (if_pos c1).symm.trans hf
        refine lv_iconst (v := 1) hx hb dX3_triedKeepsAll_51 (by decide) ?_
        exact xz_retS (fr := (fun r => r.1)) (fw := (fun r => wX E r.2.1 r.2.2)) hx hb hr hlocks (Option.some.inj hf) nz1 hP hS dX3_triedKeepsAll_52
      · replace hf := (if_neg c1).symm.trans hf
        refine lv_aload_n hx hb dX3_triedKeepsAll_13 rfl (lv_at hl 0 rfl) ?_
        refine va_get (C := RX3) (T := TX3) (N := 5) hx hb hw bfX30 hown hK hP 13 (gx_13 E g a) rfl 2 (by decide) (hw _ bw260) (fun _ h9 => h9) rfl dX3_triedKeepsAll_14 ?_
        refine lv_aload_n hx hb dX3_triedKeepsAll_17 rfl (lv_at hl 0 rfl) ?_
        refine va_get (C := RX3) (T := TX3) (N := 5) hx hb hw bfX30 hown hK hP 13 (gx_13 E g a) rfl 4 (by decide) (hw _ bw267) (fun _ h9 => h9) rfl dX3_triedKeepsAll_18 ?_
        refine lv_aload_n hx hb dX3_triedKeepsAll_21 rfl (lv_at hl 0 rfl) ?_
        refine va_get (C := RX3) (T := TX3) (N := 5) hx hb hw bfX30 hown hK hP 13 (gx_13 E g a) rfl 1 (by decide) (hw _ bw259) (fun _ h9 => h9) rfl dX3_triedKeepsAll_22 ?_
        refine lv_iload_n hx hb dX3_triedKeepsAll_25 rfl (lv_at hl 1 rfl) ?_
        refine xci (xRunV (rest := [.ref (E.2.1 46), .ref (E.2.1 7)]) (As := [.int x1]) (C := RX10) (k := 1) C0 (c_X10_placesOf l E g a x1) bw117 bw274 bw115 bw133 bw134 hd_X10_placesOf ⟨Nat.le_of_ble_eq_true rfl, Nat.le_of_ble_eq_true rfl⟩ hP (wX_D hD) hS (va_recv hK hP (ci := 10) rfl (gx_4 E g a)) rfl hl.1 rfl (Nat.le_of_ble_eq_true rfl) dX3_triedKeepsAll_26 ⟨Nat.zero_le _, Nat.zero_le _⟩) hS (fun H locs hP hS => ?_)
        refine lv_aload_n hx hb dX3_triedKeepsAll_29 rfl (lv_at hl 0 rfl) ?_
        refine va_get (C := RX3) (T := TX3) (N := 5) hx hb hw bfX30 hown hK hP 13 (gx_13 E g a) rfl 1 (by decide) (hw _ bw259) (fun _ h9 => h9) rfl dX3_triedKeepsAll_30 ?_
        refine lv_iload_n hx hb dX3_triedKeepsAll_33 rfl (lv_at hl 1 rfl) ?_
        refine xci (xRunV (rest := [.int (t_X10_placesOf g a x1), .ref (E.2.1 46), .ref (E.2.1 7)]) (As := [.int x1]) (C := RX10) (k := 1) C0 (c_X10_tuplesOf l E g a x1) bw176 bw275 bw115 bw180 bw181 hd_X10_tuplesOf ⟨Nat.le_of_ble_eq_true rfl, Nat.le_of_ble_eq_true rfl⟩ hP (wX_D hD) hS (va_recv hK hP (ci := 10) rfl (gx_4 E g a)) rfl hl.1 rfl (Nat.le_of_ble_eq_true rfl) dX3_triedKeepsAll_34 ⟨Nat.zero_le _, Nat.zero_le _⟩) hS (fun H locs hP hS => ?_)
        obtain ⟨u2, e3, hf⟩ := bd_some hf
        refine xci (xRunV (rest := []) (As := [.ref (E.2.1 46), .int (t_X10_placesOf g a x1), .int (t_X10_tuplesOf g a x1)]) (C := RX0) (k := 3) C0 (c_X0_strays l E 6 (by decide) g a (t_X10_placesOf g a x1) (t_X10_tuplesOf g a x1) e3) bw63 bw276 bw30 bw65 bw66 hd_X0_strays ⟨Nat.le_of_ble_eq_true rfl, Nat.le_of_ble_eq_true rfl⟩ hP (wX_D hD) hS (va_recv hK hP (ci := 0) rfl (gx_7 E g a)) rfl hl.1 rfl (Nat.le_of_ble_eq_true rfl) dX3_triedKeepsAll_37 ⟨Nat.zero_le _, Nat.zero_le _⟩) hS (fun H locs hP hS => ?_)
        refine lv_if_eq (tgt := 45) hx hb dX3_triedKeepsAll_40 (by decide) (fun c4 => ?_) (fun c4 => ?_)
        · replace hf := (if_pos c4).symm.trans hf
          refine lv_iinc (v := (x1 + 1)) (lv' := [(1, .int (x1 + 1)), (0, .ref (E.2.1 13))]) hx hb dX3_triedKeepsAll_45 hl (k := 1) rfl rfl (by decide) rfl (fun ls hl => ?_)
          refine lv_goto (tgt := 2) hx hb dX3_triedKeepsAll_48 (by decide) ?_
          exact ih u2.2.1 u2.2.2 (x1 + 1) _ _ _ hP hS (lv_sub hl [1, 0] rfl) hf
        · replace hf := (if_neg c4).symm.trans hf
          refine lv_iconst (v := 0) hx hb dX3_triedKeepsAll_43 (by decide) ?_
          exact xz_retS (fr := (fun r => r.1)) (fw := (fun r => wX E r.2.1 r.2.2)) hx hb hr hlocks (Option.some.inj hf) nz0 hP hS dX3_triedKeepsAll_44
  refine lv_iconst (v := 0) hx hb dX3_triedKeepsAll_0 (by decide) ?_
  refine lv_istore_n (lv' := [(1, .int 0), (0, .ref (E.2.1 13))]) hx hb dX3_triedKeepsAll_1 rfl hl (by decide) rfl (fun ls hl => ?_)
  exact B2 fu g a 0 _ _ _ hP hS (lv_sub hl [1, 0] rfl) hf
