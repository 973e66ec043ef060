/-! X8_find, X8_foundCode, X3_firstVote, X5_remainder, X5_madeAnswer, X5_become, X3_firstSum, X5_becomeUnary, X3_countEnds, X3_answeredValues, X3_fewestEndValues, X3_columnsOf, X3_leastAround, X4_spreadOut, X4_begin, X6_add, X6_addMade, X6_closure, X6_unaryOnes -/
def f_X8_find (g : xG) (a : xA) : Option (Int32 × xA) := Option.bind (f_X8_orderPoints g a 0 1) (fun u1 => Option.bind (f_X8_orderPoints g u1.2 u1.1 0) (fun u3 => Option.bind (f_X8_isCompleted 30 g u3.2 0) (fun u5 => ck (boB u5.1) (some (u5.1, u5.2)))))
set_option maxRecDepth 100000 in
set_option maxHeartbeats 40000000 in
theorem c_X8_find (l : Launch) (E : xE) (g : xG) (a : xA) {res : Int32 × xA} (hf : f_X8_find g a = some res) : xM l E yX8_find cX8_find 2 (some .boolean) 35 807 [.ref (E.2.1 14)] (wX E g a) (xQi E res.1 (wX E g res.2)) := by
  unfold f_X8_find at hf
  refine xM_of (by decide) (Nat.le_of_ble_eq_true rfl) ?_
  intro p e s m below meth c A hx hb hr hml hts hown hlocks hA hD hP hK hN hS ls hl
  have hw : ∀ w ∈ BW, w.before _ s = true := fun w h => hts w (List.mem_cons_of_mem _ h)
  have C0 : xCtx E p m c cX8_find 2 s _ RX8 A yX8_find cX8_find 2 (some .boolean) := ⟨hx, hb, hml, hown, hts, hA, hK, hN⟩
  have hl : lv_has ls 2 [(0, .ref (E.2.1 14))] := hl
  refine lv_aload_n hx hb dX8_find_0 rfl (lv_at hl 0 rfl) ?_
  refine lv_iconst (v := 0) hx hb dX8_find_1 (by decide) ?_
  refine lv_iconst (v := 1) hx hb dX8_find_2 (by decide) ?_
  obtain ⟨u1, e2, hf⟩ := bd_some hf
  refine xci (xRunV (rest := []) (As := [.int 0, .int 1]) (C := RX8) (k := 2) C0 (c_X8_orderPoints l E g a 0 1 e2) bw359 bw375 bw263 bw376 bw377 hd_X8_orderPoints ⟨Nat.le_of_ble_eq_true rfl, Nat.le_of_ble_eq_true rfl⟩ hP (wX_D hD) hS (va_recv hK hP (ci := 8) rfl (gx_14 E g a)) rfl hl.1 rfl (Nat.le_of_ble_eq_true rfl) dX8_find_3 ⟨Nat.zero_le _, Nat.zero_le _⟩) hS (fun H locs hP hS => ?_)
  refine lv_istore_n (lv' := [(1, .int u1.1), (0, .ref (E.2.1 14))]) hx hb dX8_find_6 rfl hl (by decide) rfl (fun ls hl => ?_)
  refine lv_aload_n hx hb dX8_find_7 rfl (lv_at hl 1 rfl) ?_
  refine lv_iload_n hx hb dX8_find_8 rfl (lv_at hl 0 rfl) ?_
  refine lv_iconst (v := 0) hx hb dX8_find_9 (by decide) ?_
  obtain ⟨u3, e4, hf⟩ := bd_some hf
  refine xci (xRunV (rest := []) (As := [.int u1.1, .int 0]) (C := RX8) (k := 2) C0 (c_X8_orderPoints l E g u1.2 u1.1 0 e4) bw359 bw375 bw263 bw376 bw377 hd_X8_orderPoints ⟨Nat.le_of_ble_eq_true rfl, Nat.le_of_ble_eq_true rfl⟩ hP (wX_D hD) hS (va_recv hK hP (ci := 8) rfl (gx_14 E g u1.2)) rfl hl.1 rfl (Nat.le_of_ble_eq_true rfl) dX8_find_10 ⟨Nat.zero_le _, Nat.zero_le _⟩) hS (fun H locs hP hS => ?_)
  refine lv_pop hx hb dX8_find_13 rfl ?_
  refine lv_aload_n hx hb dX8_find_14 rfl (lv_at hl 1 rfl) ?_
  refine lv_iconst (v := 0) hx hb dX8_find_15 (by decide) ?_
  obtain ⟨u5, e6, hf⟩ := bd_some hf
  refine xci (xRunS (rest := []) (As := [.ref (E.2.1 14), .int 0]) (k := 2) C0 (c_X8_isCompleted l E 30 g u3.2 0 _ e6) bw374 bw372 bw263 bw373 hd_X8_isCompleted ⟨Nat.le_of_ble_eq_true rfl, Nat.le_of_ble_eq_true rfl⟩ hP (wX_D hD) hS rfl hl.1 rfl (Nat.le_of_ble_eq_true rfl) dX8_find_16 ⟨Nat.zero_le _, Nat.zero_le _⟩) hS (fun H locs hP hS => ?_)
  obtain ⟨k7, hf⟩ := ck_some hf
  exact xz_retS (fr := (fun r => r.1)) (fw := (fun r => wX E g r.2)) hx hb hr hlocks (Option.some.inj hf) (boB_bo k7) hP hS dX8_find_19
def f_X8_foundCode_9 (g : xG) (a : xA) : Nat → Int64 → Int32 → Option (Int64)
  | 0, _, _ => none
  | n + 1, x1, x3 => (if x3 < 0 then some x1 else f_X8_foundCode_9 g a n ((x1 * (((g 0) : Int32).toInt64)) + (((atF 27 (a 18) x3) : Int32).toInt64)) (x3 + (-1)))
theorem e_X8_foundCode_9 (g : xG) (a : xA) (n : Nat) (x1 : Int64) (x3 : Int32) : f_X8_foundCode_9 g a (n + 1) x1 x3 = (if x3 < 0 then some x1 else f_X8_foundCode_9 g a n ((x1 * (((g 0) : Int32).toInt64)) + (((atF 27 (a 18) x3) : Int32).toInt64)) (x3 + (-1))) := rfl
def f_X8_foundCode (g : xG) (a : xA) : Option (Int64) := f_X8_foundCode_9 g a fu 0 ((g 5) - 1)
set_option maxRecDepth 100000 in
set_option maxHeartbeats 40000000 in
theorem c_X8_foundCode (l : Launch) (E : xE) (g : xG) (a : xA) {res : Int64} (hf : f_X8_foundCode g a = some res) : xM l E yX8_foundCode cX8_foundCode 4 (some .long) 1 21 [.ref (E.2.1 14)] (wX E g a) (xQl E res (wX E g a)) := by
  unfold f_X8_foundCode at hf
  refine xM_of (by decide) (Nat.le_of_ble_eq_true rfl) ?_
  intro p e s m below meth c A hx hb hr hml hts hown hlocks hA hD hP hK hN hS ls hl
  have hw : ∀ w ∈ BW, w.before _ s = true := fun w h => hts w (List.mem_cons_of_mem _ h)
  have C0 : xCtx E p m c cX8_foundCode 4 s _ RX8 A yX8_foundCode cX8_foundCode 4 (some .long) := ⟨hx, hb, hml, hown, hts, hA, hK, hN⟩
  have hl : lv_has ls 4 [(0, .ref (E.2.1 14))] := hl
  have B9 : ∀ (n : Nat) (x1 : Int64) (x3 : Int32) (H : Heap) (locs : List Loc) (ls : Array Slot), va_P E.1 vwCl (wX E g a) H → va_S A s.heap H locs → lv_has ls 4 [(0, .ref (E.2.1 14)), (1, .long x1), (3, .int x3)] → f_X8_foundCode_9 g a n x1 x3 = some res → W p l e ({ frames := 1, cells := 0, slots := 0, locals := 21 }) s m ([.ref (E.2.1 14)] : List Value).toArray below meth c H locs 0 0 (MQ below ((xQl E res (wX E g a)) A) ([.ref (E.2.1 14)] : List Value).toArray s 0 0 A) (F0 m 9 ls []) := by
    intro n
    induction n with
    | zero => intro x1 x3 H locs ls hP hS hl hf; exact absurd (show (none : Option (Int64)) = some res from hf) (by intro h; cases h)
    | succ n ih =>
      intro x1 x3 H locs ls hP hS hl hf
      replace hf := (e_X8_foundCode_9 g a n x1 x3).symm.trans hf
      refine lv_iload_n hx hb dX8_foundCode_9 rfl (lv_at hl 2 rfl) ?_
      refine lv_if_lt (tgt := 40) hx hb dX8_foundCode_10 (by decide) (fun c1 => ?_) (fun c1 => ?_)
      · replace hf := (if_pos c1).symm.trans hf
        refine lv_lload_n hx hb dX8_foundCode_40 rfl (lv_at hl 1 rfl) ?_
        exact xl_retS (fr := (fun r => r)) (fw := (fun r => wX E g a)) hx hb hr hlocks (Option.some.inj hf) hP hS dX8_foundCode_41
      · replace hf := (if_neg c1).symm.trans hf
        refine lv_lload_n hx hb dX8_foundCode_13 rfl (lv_at hl 1 rfl) ?_
        refine lv_aload_n hx hb dX8_foundCode_14 rfl (lv_at hl 0 rfl) ?_
        refine va_get (C := RX8) (T := TX8) (N := 8) hx hb hw bfX80 hown hK hP 14 (gx_14 E g a) rfl 0 (by decide) (hw _ bw252) (fun _ h9 => h9) rfl dX8_foundCode_15 ?_
        refine va_get (C := RX4) (T := TX4) (N := 3) hx hb hw bfX40 hown hK hP 1 (gx_1 E g a) rfl 0 (by decide) (hw _ bw368) (fun _ h9 => h9) rfl dX8_foundCode_18 ?_
        refine lv_i2l (v := (((g 0) : Int32).toInt64)) hx hb dX8_foundCode_21 rfl ?_
        refine lv_lmul hx hb dX8_foundCode_22 ?_
        refine lv_aload_n hx hb dX8_foundCode_23 rfl (lv_at hl 0 rfl) ?_
        refine va_get (C := RX8) (T := TX8) (N := 8) hx hb hw bfX80 hown hK hP 14 (gx_14 E g a) rfl 6 (by decide) (hw _ bw251) (fun _ h9 => h9) rfl dX8_foundCode_24 ?_
        refine lv_iload_n hx hb dX8_foundCode_27 rfl (lv_at hl 2 rfl) ?_
        refine xci (xRunN (rest := [.long (x1 * (((g 0) : Int32).toInt64))]) (As := [.ref (E.2.1 18), .int x3]) (k := 2) C0 (c_at l E (wX E g a) 18 x3 (gx_18 E g a) (Nat.le_of_ble_eq_true rfl)) bw9 nw21 bw13 bw12 hd_X11_at ⟨Nat.le_of_ble_eq_true rfl, Nat.le_of_ble_eq_true rfl⟩ hP (wX_D hD) hS rfl hl.1 rfl (Nat.le_of_ble_eq_true rfl) dX8_foundCode_28 ⟨Nat.zero_le _, Nat.zero_le _⟩) hS (fun H locs hP hS => ?_)
        refine lv_i2l (v := (((atF 27 (a 18) x3) : Int32).toInt64)) hx hb dX8_foundCode_31 rfl ?_
        refine lv_ladd hx hb dX8_foundCode_32 ?_
        refine lv_lstore_n (lv' := [(1, .long ((x1 * (((g 0) : Int32).toInt64)) + (((atF 27 (a 18) x3) : Int32).toInt64))), (0, .ref (E.2.1 14)), (3, .int x3)]) hx hb dX8_foundCode_33 rfl hl (by decide) rfl (fun ls hl => ?_)
        refine lv_iinc (v := (x3 + (-1))) (lv' := [(3, .int (x3 + (-1))), (1, .long ((x1 * (((g 0) : Int32).toInt64)) + (((atF 27 (a 18) x3) : Int32).toInt64))), (0, .ref (E.2.1 14))]) hx hb dX8_foundCode_34 hl (k := 2) rfl rfl (by decide) rfl (fun ls hl => ?_)
        refine lv_goto (tgt := 9) hx hb dX8_foundCode_37 (by decide) ?_
        exact ih ((x1 * (((g 0) : Int32).toInt64)) + (((atF 27 (a 18) x3) : Int32).toInt64)) (x3 + (-1)) _ _ _ hP hS (lv_sub hl [2, 1, 0] rfl) hf
  refine lv_lconst (v := 0) hx hb dX8_foundCode_0 (by decide) ?_
  refine lv_lstore_n (lv' := [(1, .long 0), (0, .ref (E.2.1 14))]) hx hb dX8_foundCode_1 rfl hl (by decide) rfl (fun ls hl => ?_)
  refine lv_aload_n hx hb dX8_foundCode_2 rfl (lv_at hl 1 rfl) ?_
  refine va_get (C := RX8) (T := TX8) (N := 8) hx hb hw bfX80 hown hK hP 14 (gx_14 E g a) rfl 7 (by decide) (hw _ bw328) (fun _ h9 => h9) rfl dX8_foundCode_3 ?_
  refine lv_iconst (v := 1) hx hb dX8_foundCode_6 (by decide) ?_
  refine lv_isub hx hb dX8_foundCode_7 ?_
  refine lv_istore_n (lv' := [(3, .int ((g 5) - 1)), (1, .long 0), (0, .ref (E.2.1 14))]) hx hb dX8_foundCode_8 rfl hl (by decide) rfl (fun ls hl => ?_)
  exact B9 fu 0 ((g 5) - 1) _ _ _ hP hS (lv_sub hl [2, 1, 0] rfl) hf
def f_X3_firstVote_65 (K11 : xG → xA → Int32 → Option (Int64 × xG × xA)) (g : xG) (a : xA) (x1 : Int32) (x2 : Int32) : Option (Int64 × xG × xA) := K11 g (t_X8_allowOnly g a x1 x2) (x1 + 1)
def f_X3_firstVote_11 : Nat → xG → xA → Int32 → Option (Int64 × xG × xA)
  | 0, _, _, _ => none
  | n + 1, g, a, x1 => (if (t_X4_power g a 3) ≤ x1 then Option.bind (f_X8_find g a) (fun u4 => (if u4.1 = 0 then some ((-1), g, u4.2) else Option.bind (f_X8_foundCode g u4.2) (fun u7 => some (u7, g, u4.2)))) else (if (t_X4_digit g a x1 0) = (t_X4_digit g a x1 1) then f_X3_firstVote_65 (f_X3_firstVote_11 n) g a x1 (t_X4_digit g a x1 0) else (if (t_X4_digit g a x1 0) = (t_X4_digit g a x1 2) then f_X3_firstVote_65 (f_X3_firstVote_11 n) g a x1 (t_X4_digit g a x1 0) else (if (t_X4_digit g a x1 1) = (t_X4_digit g a x1 2) then f_X3_firstVote_11 n g (t_X8_allowOnly g a x1 (t_X4_digit g a x1 1)) (x1 + 1) else f_X3_firstVote_11 n g a (x1 + 1)))))
theorem e_X3_firstVote_11 (n : Nat) (g : xG) (a : xA) (x1 : Int32) : f_X3_firstVote_11 (n + 1) g a x1 = (if (t_X4_power g a 3) ≤ x1 then Option.bind (f_X8_find g a) (fun u4 => (if u4.1 = 0 then some ((-1), g, u4.2) else Option.bind (f_X8_foundCode g u4.2) (fun u7 => some (u7, g, u4.2)))) else (if (t_X4_digit g a x1 0) = (t_X4_digit g a x1 1) then f_X3_firstVote_65 (f_X3_firstVote_11 n) g a x1 (t_X4_digit g a x1 0) else (if (t_X4_digit g a x1 0) = (t_X4_digit g a x1 2) then f_X3_firstVote_65 (f_X3_firstVote_11 n) g a x1 (t_X4_digit g a x1 0) else (if (t_X4_digit g a x1 1) = (t_X4_digit g a x1 2) then f_X3_firstVote_11 n g (t_X8_allowOnly g a x1 (t_X4_digit g a x1 1)) (x1 + 1) else f_X3_firstVote_11 n g a (x1 + 1))))) := rfl
def f_X3_firstVote (g : xG) (a : xA) : Option (Int64 × xG × xA) := Option.bind (f_X8_begin g a 3 (-1)) (fun u1 => f_X3_firstVote_11 fu u1.1 u1.2 0)
set_option maxRecDepth 100000 in
set_option maxHeartbeats 40000000 in
theorem c_X3_firstVote (l : Launch) (E : xE) (g : xG) (a : xA) {res : Int64 × xG × xA} (hf : f_X3_firstVote g a = some res) : xM l E yX3_firstVote cX3_firstVote 5 (some .long) 36 828 [.ref (E.2.1 13)] (wX E g a) (xQl E res.1 (wX E res.2.1 res.2.2)) := by
  unfold f_X3_firstVote at hf
  refine xM_of (by decide) (Nat.le_of_ble_eq_true rfl) ?_
  intro p e s m below meth c A hx hb hr hml hts hown hlocks hA hD hP hK hN hS ls hl
  have hw : ∀ w ∈ BW, w.before _ s = true := fun w h => hts w (List.mem_cons_of_mem _ h)
  have C0 : xCtx E p m c cX3_firstVote 5 s _ RX3 A yX3_firstVote cX3_firstVote 5 (some .long) := ⟨hx, hb, hml, hown, hts, hA, hK, hN⟩
  have hl : lv_has ls 5 [(0, .ref (E.2.1 13))] := hl
  have B65 : ∀ (K11 : xG → xA → Int32 → Option (Int64 × xG × xA)) (hK11 : ∀ (g : xG) (a : xA) (x1 : Int32) (H : Heap) (locs : List Loc) (ls : Array Slot), va_P E.1 vwCl (wX E g a) H → va_S A s.heap H locs → lv_has ls 5 [(0, .ref (E.2.1 13)), (1, .int x1)] → K11 g a x1 = some res → W p l e ({ frames := 36, cells := 0, slots := 0, locals := 828 }) s m ([.ref (E.2.1 13)] : List Value).toArray below meth c H locs 0 0 (MQ below ((xQl E res.1 (wX E res.2.1 res.2.2)) A) ([.ref (E.2.1 13)] : List Value).toArray s 0 0 A) (F0 m 11 ls [])) (g : xG) (a : xA) (x1 : Int32) (x2 : Int32) (H : Heap) (locs : List Loc) (ls : Array Slot), va_P E.1 vwCl (wX E g a) H → va_S A s.heap H locs → lv_has ls 5 [(0, .ref (E.2.1 13)), (1, .int x1), (2, .int x2)] → f_X3_firstVote_65 K11 g a x1 x2 = some res → W p l e ({ frames := 36, cells := 0, slots := 0, locals := 828 }) s m ([.ref (E.2.1 13)] : List Value).toArray below meth c H locs 0 0 (MQ below ((xQl E res.1 (wX E res.2.1 res.2.2)) A) ([.ref (E.2.1 13)] : List Value).toArray s 0 0 A) (F0 m 65 ls []) := by
    intro K11 hK11 g a x1 x2 H locs ls hP hS hl hf
    unfold f_X3_firstVote_65 at hf
    refine lv_aload_n hx hb dX3_firstVote_65 rfl (lv_at hl 0 rfl) ?_
    refine va_get (C := RX3) (T := TX3) (N := 5) hx hb hw bfX30 hown hK hP 13 (gx_13 E g a) rfl 3 (by decide) (hw _ bw264) (fun _ h9 => h9) rfl dX3_firstVote_66 ?_
    refine lv_iload_n hx hb dX3_firstVote_69 rfl (lv_at hl 1 rfl) ?_
    refine lv_iload_n hx hb dX3_firstVote_70 rfl (lv_at hl 2 rfl) ?_
    refine xcv (xRunV (rest := []) (As := [.int x1, .int x2]) (C := RX8) (k := 2) C0 (c_X8_allowOnly l E g a x1 x2) bw354 bw384 bw263 bw385 bw386 hd_X8_allowOnly ⟨Nat.le_of_ble_eq_true rfl, Nat.le_of_ble_eq_true rfl⟩ hP (wX_D hD) hS (va_recv hK hP (ci := 8) rfl (gx_14 E g a)) rfl hl.1 rfl (Nat.le_of_ble_eq_true rfl) dX3_firstVote_71 ⟨Nat.zero_le _, Nat.zero_le _⟩) hS (fun H locs hP hS => ?_)
    refine lv_goto (tgt := 92) hx hb dX3_firstVote_74 (by decide) ?_
    refine lv_iinc (v := (x1 + 1)) (lv' := [(1, .int (x1 + 1)), (0, .ref (E.2.1 13)), (2, .int x2)]) hx hb dX3_firstVote_92 hl (k := 1) rfl rfl (by decide) rfl (fun ls hl => ?_)
    refine lv_goto (tgt := 11) hx hb dX3_firstVote_95 (by decide) ?_
    exact hK11 g (t_X8_allowOnly g a x1 x2) (x1 + 1) _ _ _ hP hS (lv_sub hl [1, 0] rfl) hf
  have B11 : ∀ (n : Nat) (g : xG) (a : xA) (x1 : Int32) (H : Heap) (locs : List Loc) (ls : Array Slot), va_P E.1 vwCl (wX E g a) H → va_S A s.heap H locs → lv_has ls 5 [(0, .ref (E.2.1 13)), (1, .int x1)] → f_X3_firstVote_11 n g a x1 = some res → W p l e ({ frames := 36, cells := 0, slots := 0, locals := 828 }) s m ([.ref (E.2.1 13)] : List Value).toArray below meth c H locs 0 0 (MQ below ((xQl E res.1 (wX E res.2.1 res.2.2)) A) ([.ref (E.2.1 13)] : List Value).toArray s 0 0 A) (F0 m 11 ls []) := by
    intro n
    induction n with
    | zero => intro g a x1 H locs ls hP hS hl hf; exact absurd (show (none : Option (Int64 × xG × xA)) = some res from hf) (by intro h; cases h)
    | succ n ih =>
      intro g a x1 H locs ls hP hS hl hf
      replace hf := (e_X3_firstVote_11 n g a x1).symm.trans hf
      refine lv_iload_n hx hb dX3_firstVote_11 rfl (lv_at hl 1 rfl) ?_
      refine lv_aload_n hx hb dX3_firstVote_12 rfl (lv_at hl 0 rfl) ?_
      refine va_get (C := RX3) (T := TX3) (N := 5) hx hb hw bfX30 hown hK hP 13 (gx_13 E g a) rfl 0 (by decide) (hw _ bw258) (fun _ h9 => h9) rfl dX3_firstVote_13 ?_
      refine lv_iconst (v := 3) hx hb dX3_firstVote_16 (by decide) ?_
      refine xci (xRunV (rest := [.int x1]) (As := [.int 3]) (C := RX4) (k := 1) C0 (c_X4_power l E g a 3) bw55 bw383 bw22 bw58 bw59 hd_X4_power ⟨Nat.le_of_ble_eq_true rfl, Nat.le_of_ble_eq_true rfl⟩ hP (wX_D hD) hS (va_recv hK hP (ci := 4) rfl (gx_1 E g a)) rfl hl.1 rfl (Nat.le_of_ble_eq_true rfl) dX3_firstVote_17 ⟨Nat.zero_le _, Nat.zero_le _⟩) hS (fun H locs hP hS => ?_)
      refine lv_icmp_ge (tgt := 98) hx hb dX3_firstVote_20 (by decide) (fun c3 => ?_) (fun c3 => ?_)
      · replace hf := (if_pos c3).symm.trans hf
        refine lv_aload_n hx hb dX3_firstVote_98 rfl (lv_at hl 0 rfl) ?_
        refine va_get (C := RX3) (T := TX3) (N := 5) hx hb hw bfX30 hown hK hP 13 (gx_13 E g a) rfl 3 (by decide) (hw _ bw264) (fun _ h9 => h9) rfl dX3_firstVote_99 ?_
        obtain ⟨u4, e5, hf⟩ := bd_some hf
        refine xci (xRunV (rest := []) (As := []) (C := RX8) (k := 0) C0 (c_X8_find l E g a e5) bw378 bw387 bw263 bw388 bw389 hd_X8_find ⟨Nat.le_of_ble_eq_true rfl, Nat.le_of_ble_eq_true rfl⟩ hP (wX_D hD) hS (va_recv hK hP (ci := 8) rfl (gx_14 E g a)) rfl hl.1 rfl (Nat.le_of_ble_eq_true rfl) dX3_firstVote_102 ⟨Nat.zero_le _, Nat.zero_le _⟩) hS (fun H locs hP hS => ?_)
        refine lv_if_eq (tgt := 118) hx hb dX3_firstVote_105 (by decide) (fun c6 => ?_) (fun c6 => ?_)
        · replace hf := (if_pos c6).symm.trans hf
          refine lv_ldc2 hx hb hown (hw _ bw295) dX3_firstVote_118 ?_
          exact xl_retS (fr := (fun r => r.1)) (fw := (fun r => wX E r.2.1 r.2.2)) hx hb hr hlocks (Option.some.inj hf) hP hS dX3_firstVote_121
        · replace hf := (if_neg c6).symm.trans hf
          refine lv_aload_n hx hb dX3_firstVote_108 rfl (lv_at hl 0 rfl) ?_
          refine va_get (C := RX3) (T := TX3) (N := 5) hx hb hw bfX30 hown hK hP 13 (gx_13 E g u4.2) rfl 3 (by decide) (hw _ bw264) (fun _ h9 => h9) rfl dX3_firstVote_109 ?_
          obtain ⟨u7, e8, hf⟩ := bd_some hf
          refine xcl (xRunV (rest := []) (As := []) (C := RX8) (k := 0) C0 (c_X8_foundCode l E g u4.2 e8) bw379 bw390 bw263 bw391 bw392 hd_X8_foundCode ⟨Nat.le_of_ble_eq_true rfl, Nat.le_of_ble_eq_true rfl⟩ hP (wX_D hD) hS (va_recv hK hP (ci := 8) rfl (gx_14 E g u4.2)) rfl hl.1 rfl (Nat.le_of_ble_eq_true rfl) dX3_firstVote_112 ⟨Nat.zero_le _, Nat.zero_le _⟩) hS (fun H locs hP hS => ?_)
          refine lv_goto (tgt := 121) hx hb dX3_firstVote_115 (by decide) ?_
          exact xl_retS (fr := (fun r => r.1)) (fw := (fun r => wX E r.2.1 r.2.2)) hx hb hr hlocks (Option.some.inj hf) hP hS dX3_firstVote_121
      · replace hf := (if_neg c3).symm.trans hf
        refine lv_aload_n hx hb dX3_firstVote_23 rfl (lv_at hl 0 rfl) ?_
        refine va_get (C := RX3) (T := TX3) (N := 5) hx hb hw bfX30 hown hK hP 13 (gx_13 E g a) rfl 0 (by decide) (hw _ bw258) (fun _ h9 => h9) rfl dX3_firstVote_24 ?_
        refine lv_iload_n hx hb dX3_firstVote_27 rfl (lv_at hl 1 rfl) ?_
        refine lv_iconst (v := 0) hx hb dX3_firstVote_28 (by decide) ?_
        refine xci (xRunV (rest := []) (As := [.int x1, .int 0]) (C := RX4) (k := 2) C0 (c_X4_digit l E g a x1 0) bw174 bw309 bw22 bw199 bw200 hd_X4_digit ⟨Nat.le_of_ble_eq_true rfl, Nat.le_of_ble_eq_true rfl⟩ hP (wX_D hD) hS (va_recv hK hP (ci := 4) rfl (gx_1 E g a)) rfl hl.1 rfl (Nat.le_of_ble_eq_true rfl) dX3_firstVote_29 ⟨Nat.zero_le _, Nat.zero_le _⟩) hS (fun H locs hP hS => ?_)
        refine lv_istore_n (lv' := [(2, .int (t_X4_digit g a x1 0)), (0, .ref (E.2.1 13)), (1, .int x1)]) hx hb dX3_firstVote_32 rfl hl (by decide) rfl (fun ls hl => ?_)
        refine lv_aload_n hx hb dX3_firstVote_33 rfl (lv_at hl 1 rfl) ?_
        refine va_get (C := RX3) (T := TX3) (N := 5) hx hb hw bfX30 hown hK hP 13 (gx_13 E g a) rfl 0 (by decide) (hw _ bw258) (fun _ h9 => h9) rfl dX3_firstVote_34 ?_
        refine lv_iload_n hx hb dX3_firstVote_37 rfl (lv_at hl 2 rfl) ?_
        refine lv_iconst (v := 1) hx hb dX3_firstVote_38 (by decide) ?_
        refine xci (xRunV (rest := []) (As := [.int x1, .int 1]) (C := RX4) (k := 2) C0 (c_X4_digit l E g a x1 1) bw174 bw309 bw22 bw199 bw200 hd_X4_digit ⟨Nat.le_of_ble_eq_true rfl, Nat.le_of_ble_eq_true rfl⟩ hP (wX_D hD) hS (va_recv hK hP (ci := 4) rfl (gx_1 E g a)) rfl hl.1 rfl (Nat.le_of_ble_eq_true rfl) dX3_firstVote_39 ⟨Nat.zero_le _, Nat.zero_le _⟩) hS (fun H locs hP hS => ?_)
        refine lv_istore_n (lv' := [(3, .int (t_X4_digit g a x1 1)), (2, .int (t_X4_digit g a x1 0)), (0, .ref (E.2.1 13)), (1, .int x1)]) hx hb dX3_firstVote_42 rfl hl (by decide) rfl (fun ls hl => ?_)
        refine lv_aload_n hx hb dX3_firstVote_43 rfl (lv_at hl 2 rfl) ?_
        refine va_get (C := RX3) (T := TX3) (N := 5) hx hb hw bfX30 hown hK hP 13 (gx_13 E g a) rfl 0 (by decide) (hw _ bw258) (fun _ h9 => h9) rfl dX3_firstVote_44 ?_
        refine lv_iload_n hx hb dX3_firstVote_47 rfl (lv_at hl 3 rfl) ?_
        refine lv_iconst (v := 2) hx hb dX3_firstVote_48 (by decide) ?_
        refine xci (xRunV (rest := []) (As := [.int x1, .int 2]) (C := RX4) (k := 2) C0 (c_X4_digit l E g a x1 2) bw174 bw309 bw22 bw199 bw200 hd_X4_digit ⟨Nat.le_of_ble_eq_true rfl, Nat.le_of_ble_eq_true rfl⟩ hP (wX_D hD) hS (va_recv hK hP (ci := 4) rfl (gx_1 E g a)) rfl hl.1 rfl (Nat.le_of_ble_eq_true rfl) dX3_firstVote_49 ⟨Nat.zero_le _, Nat.zero_le _⟩) hS (fun H locs hP hS => ?_)
        refine lv_istore (lv' := [(4, .int (t_X4_digit g a x1 2)), (3, .int (t_X4_digit g a x1 1)), (2, .int (t_X4_digit g a x1 0)), (0, .ref (E.2.1 13)), (1, .int x1)]) hx hb dX3_firstVote_52 hl (by decide) rfl (fun ls hl => ?_)
        refine lv_iload_n hx hb dX3_firstVote_54 rfl (lv_at hl 2 rfl) ?_
        refine lv_iload_n hx hb dX3_firstVote_55 rfl (lv_at hl 1 rfl) ?_
        refine lv_icmp_eq (tgt := 65) hx hb dX3_firstVote_56 (by decide) (fun c9 => ?_) (fun c9 => ?_)
        · replace hf := (if_pos c9).symm.trans hf
          exact B65 (f_X3_firstVote_11 n) ih g a x1 (t_X4_digit g a x1 0) _ _ _ hP hS (lv_sub hl [3, 4, 2] rfl) hf
        · replace hf := (if_neg c9).symm.trans hf
          refine lv_iload_n hx hb dX3_firstVote_59 rfl (lv_at hl 2 rfl) ?_
          refine lv_iload hx hb dX3_firstVote_60 (lv_at hl 0 rfl) ?_
          refine lv_icmp_ne (tgt := 77) hx hb dX3_firstVote_62 (by decide) (fun c10 => ?_) (fun c10 => ?_)
          · replace hf := (if_neg c10).symm.trans hf
            refine lv_iload_n hx hb dX3_firstVote_77 rfl (lv_at hl 1 rfl) ?_
            refine lv_iload hx hb dX3_firstVote_78 (lv_at hl 0 rfl) ?_
            refine lv_icmp_ne (tgt := 92) hx hb dX3_firstVote_80 (by decide) (fun c11 => ?_) (fun c11 => ?_)
            · replace hf := (if_neg c11).symm.trans hf
              refine lv_iinc (v := (x1 + 1)) (lv' := [(1, .int (x1 + 1)), (4, .int (t_X4_digit g a x1 2)), (3, .int (t_X4_digit g a x1 1)), (2, .int (t_X4_digit g a x1 0)), (0, .ref (E.2.1 13))]) hx hb dX3_firstVote_92 hl (k := 4) rfl rfl (by decide) rfl (fun ls hl => ?_)
              refine lv_goto (tgt := 11) hx hb dX3_firstVote_95 (by decide) ?_
              exact ih g a (x1 + 1) _ _ _ hP hS (lv_sub hl [4, 0] rfl) hf
            · replace hf := (if_pos c11).symm.trans hf
              refine lv_aload_n hx hb dX3_firstVote_83 rfl (lv_at hl 3 rfl) ?_
              refine va_get (C := RX3) (T := TX3) (N := 5) hx hb hw bfX30 hown hK hP 13 (gx_13 E g a) rfl 3 (by decide) (hw _ bw264) (fun _ h9 => h9) rfl dX3_firstVote_84 ?_
              refine lv_iload_n hx hb dX3_firstVote_87 rfl (lv_at hl 4 rfl) ?_
              refine lv_iload_n hx hb dX3_firstVote_88 rfl (lv_at hl 1 rfl) ?_
              refine xcv (xRunV (rest := []) (As := [.int x1, .int (t_X4_digit g a x1 1)]) (C := RX8) (k := 2) C0 (c_X8_allowOnly l E g a x1 (t_X4_digit g a x1 1)) bw354 bw384 bw263 bw385 bw386 hd_X8_allowOnly ⟨Nat.le_of_ble_eq_true rfl, Nat.le_of_ble_eq_true rfl⟩ hP (wX_D hD) hS (va_recv hK hP (ci := 8) rfl (gx_14 E g a)) rfl hl.1 rfl (Nat.le_of_ble_eq_true rfl) dX3_firstVote_89 ⟨Nat.zero_le _, Nat.zero_le _⟩) hS (fun H locs hP hS => ?_)
              refine lv_iinc (v := (x1 + 1)) (lv' := [(1, .int (x1 + 1)), (4, .int (t_X4_digit g a x1 2)), (3, .int (t_X4_digit g a x1 1)), (2, .int (t_X4_digit g a x1 0)), (0, .ref (E.2.1 13))]) hx hb dX3_firstVote_92 hl (k := 4) rfl rfl (by decide) rfl (fun ls hl => ?_)
              refine lv_goto (tgt := 11) hx hb dX3_firstVote_95 (by decide) ?_
              exact ih g (t_X8_allowOnly g a x1 (t_X4_digit g a x1 1)) (x1 + 1) _ _ _ hP hS (lv_sub hl [4, 0] rfl) hf
          · replace hf := (if_pos c10).symm.trans hf
            exact B65 (f_X3_firstVote_11 n) ih g a x1 (t_X4_digit g a x1 0) _ _ _ hP hS (lv_sub hl [3, 4, 2] rfl) hf
  refine lv_aload_n hx hb dX3_firstVote_0 rfl (lv_at hl 0 rfl) ?_
  refine va_get (C := RX3) (T := TX3) (N := 5) hx hb hw bfX30 hown hK hP 13 (gx_13 E g a) rfl 3 (by decide) (hw _ bw264) (fun _ h9 => h9) rfl dX3_firstVote_1 ?_
  refine lv_iconst (v := 3) hx hb dX3_firstVote_4 (by decide) ?_
  refine lv_iconst (v := (-1)) hx hb dX3_firstVote_5 (by decide) ?_
  obtain ⟨u1, e2, hf⟩ := bd_some hf
  refine xcv (xRunV (rest := []) (As := [.int 3, .int (-1)]) (C := RX8) (k := 2) C0 (c_X8_begin l E g a 3 (-1) e2) bw353 bw380 bw263 bw381 bw382 hd_X8_begin ⟨Nat.le_of_ble_eq_true rfl, Nat.le_of_ble_eq_true rfl⟩ hP (wX_D hD) hS (va_recv hK hP (ci := 8) rfl (gx_14 E g a)) rfl hl.1 rfl (Nat.le_of_ble_eq_true rfl) dX3_firstVote_6 ⟨Nat.zero_le _, Nat.zero_le _⟩) hS (fun H locs hP hS => ?_)
  refine lv_iconst (v := 0) hx hb dX3_firstVote_9 (by decide) ?_
  refine lv_istore_n (lv' := [(1, .int 0), (0, .ref (E.2.1 13))]) hx hb dX3_firstVote_10 rfl hl (by decide) rfl (fun ls hl => ?_)
  exact B11 fu u1.1 u1.2 0 _ _ _ hP hS (lv_sub hl [1, 0] rfl) hf
def t_X5_remainder (k : Nat) (g : xG) (a : xA) (v1 : Int32) : Int32 := (if 0 ≤ v1 then (if v1 < (g 0) then v1 else (v1 - (g 0))) else (v1 + (g 0)))
set_option maxRecDepth 100000 in
set_option maxHeartbeats 40000000 in
theorem c_X5_remainder (l : Launch) (E : xE) (k : Nat) (hk : k < 7) (g : xG) (a : xA) (v1 : Int32) : xM l E yX5_remainder cX5_remainder 2 (some .int) 0 0 [.ref (E.2.1 (40 + k)), .int v1] (wX E g a) (xQi E (t_X5_remainder k g a v1) (wX E g a)) := by
  obtain ⟨res, hres⟩ : ∃ z, z = t_X5_remainder k g a v1 := ⟨_, rfl⟩
  rw [← hres]
  have hf : _ = res := hres.symm
  unfold t_X5_remainder at hf
  refine xM_of (by decide) (Nat.le_of_ble_eq_true rfl) ?_
  intro p e s m below meth c A hx hb hr hml hts hown hlocks hA hD hP hK hN hS ls hl
  have hw : ∀ w ∈ BW, w.before _ s = true := fun w h => hts w (List.mem_cons_of_mem _ h)
  have C0 : xCtx E p m c cX5_remainder 2 s _ RX5 A yX5_remainder cX5_remainder 2 (some .int) := ⟨hx, hb, hml, hown, hts, hA, hK, hN⟩
  have hl : lv_has ls 2 [(0, .ref (E.2.1 (40 + k))), (1, .int v1)] := hl
  refine lv_iload_n hx hb dX5_remainder_0 rfl (lv_at hl 1 rfl) ?_
  refine lv_if_ge (tgt := 16) hx hb dX5_remainder_1 (by decide) (fun c1 => ?_) (fun c1 => ?_)
  · replace hf := (if_pos c1).symm.trans hf
    refine lv_iload_n hx hb dX5_remainder_16 rfl (lv_at hl 1 rfl) ?_
    refine lv_aload_n hx hb dX5_remainder_17 rfl (lv_at hl 0 rfl) ?_
    refine va_get (C := RX5) (T := TX5) (N := 3) hx hb hw bfX50 hown hK hP (40 + k) (gx_op E g a k hk) rfl 0 (by decide) (hw _ bw35) (fun _ h9 => h9) rfl dX5_remainder_18 ?_
    refine va_get (C := RX4) (T := TX4) (N := 3) hx hb hw bfX40 hown hK hP 1 (gx_1 E g a) rfl 0 (by decide) (hw _ bw36) (fun _ h9 => h9) rfl dX5_remainder_21 ?_
    refine lv_icmp_lt (tgt := 39) hx hb dX5_remainder_24 (by decide) (fun c2 => ?_) (fun c2 => ?_)
    · replace hf := (if_pos c2).symm.trans hf
      refine lv_iload_n hx hb dX5_remainder_39 rfl (lv_at hl 1 rfl) ?_
      exact xi_retS (fr := (fun r => r)) (fw := (fun r => wX E g a)) hx hb hr hlocks hf hP hS dX5_remainder_40
    · replace hf := (if_neg c2).symm.trans hf
      refine lv_iload_n hx hb dX5_remainder_27 rfl (lv_at hl 1 rfl) ?_
      refine lv_aload_n hx hb dX5_remainder_28 rfl (lv_at hl 0 rfl) ?_
      refine va_get (C := RX5) (T := TX5) (N := 3) hx hb hw bfX50 hown hK hP (40 + k) (gx_op E g a k hk) rfl 0 (by decide) (hw _ bw35) (fun _ h9 => h9) rfl dX5_remainder_29 ?_
      refine va_get (C := RX4) (T := TX4) (N := 3) hx hb hw bfX40 hown hK hP 1 (gx_1 E g a) rfl 0 (by decide) (hw _ bw36) (fun _ h9 => h9) rfl dX5_remainder_32 ?_
      refine lv_isub hx hb dX5_remainder_35 ?_
      refine lv_goto (tgt := 40) hx hb dX5_remainder_36 (by decide) ?_
      exact xi_retS (fr := (fun r => r)) (fw := (fun r => wX E g a)) hx hb hr hlocks hf hP hS dX5_remainder_40
  · replace hf := (if_neg c1).symm.trans hf
    refine lv_iload_n hx hb dX5_remainder_4 rfl (lv_at hl 1 rfl) ?_
    refine lv_aload_n hx hb dX5_remainder_5 rfl (lv_at hl 0 rfl) ?_
    refine va_get (C := RX5) (T := TX5) (N := 3) hx hb hw bfX50 hown hK hP (40 + k) (gx_op E g a k hk) rfl 0 (by decide) (hw _ bw35) (fun _ h9 => h9) rfl dX5_remainder_6 ?_
    refine va_get (C := RX4) (T := TX4) (N := 3) hx hb hw bfX40 hown hK hP 1 (gx_1 E g a) rfl 0 (by decide) (hw _ bw36) (fun _ h9 => h9) rfl dX5_remainder_9 ?_
    refine lv_iadd hx hb dX5_remainder_12 ?_
    refine lv_goto (tgt := 40) hx hb dX5_remainder_13 (by decide) ?_
    exact xi_retS (fr := (fun r => r)) (fw := (fun r => wX E g a)) hx hb hr hlocks hf hP hS dX5_remainder_40
def t_X5_madeAnswer (k : Nat) (g : xG) (a : xA) (v1 : Int32) (v2 : Int32) (v3 : Int32) (v4 : Int32) : Int32 := (if v1 = 0 then (if v3 < v2 then v3 else v2) else (if v1 = 1 then (if v2 < v3 then v3 else v2) else (if v1 = 2 then (if (if v3 < v2 then v3 else v2) < (if v4 < (if v2 < v3 then v3 else v2) then v4 else (if v2 < v3 then v3 else v2)) then (if v4 < (if v2 < v3 then v3 else v2) then v4 else (if v2 < v3 then v3 else v2)) else (if v3 < v2 then v3 else v2)) else (if v1 = 3 then (t_X5_remainder k g a ((v2 - v3) + v4)) else (t_X5_remainder k g a (v2 + 1))))))
set_option maxRecDepth 100000 in
set_option maxHeartbeats 40000000 in
theorem c_X5_madeAnswer (l : Launch) (E : xE) (k : Nat) (hk : k < 7) (g : xG) (a : xA) (v1 : Int32) (v2 : Int32) (v3 : Int32) (v4 : Int32) : xM l E yX5_madeAnswer cX5_madeAnswer 5 (some .int) 1 30 [.ref (E.2.1 (40 + k)), .int v1, .int v2, .int v3, .int v4] (wX E g a) (xQi E (t_X5_madeAnswer k g a v1 v2 v3 v4) (wX E g a)) := by
  obtain ⟨res, hres⟩ : ∃ z, z = t_X5_madeAnswer k g a v1 v2 v3 v4 := ⟨_, rfl⟩
  rw [← hres]
  have hf : _ = res := hres.symm
  unfold t_X5_madeAnswer at hf
  refine xM_of (by decide) (Nat.le_of_ble_eq_true rfl) ?_
  intro p e s m below meth c A hx hb hr hml hts hown hlocks hA hD hP hK hN hS ls hl
  have hw : ∀ w ∈ BW, w.before _ s = true := fun w h => hts w (List.mem_cons_of_mem _ h)
  have C0 : xCtx E p m c cX5_madeAnswer 5 s _ RX5 A yX5_madeAnswer cX5_madeAnswer 5 (some .int) := ⟨hx, hb, hml, hown, hts, hA, hK, hN⟩
  have hl : lv_has ls 5 [(0, .ref (E.2.1 (40 + k))), (1, .int v1), (2, .int v2), (3, .int v3), (4, .int v4)] := hl
  refine lv_iload_n hx hb dX5_madeAnswer_0 rfl (lv_at hl 1 rfl) ?_
  by_cases c1 : v1 = 0
  · replace hf := (if_pos c1).symm.trans hf
    refine lv_tableIn (tgt := 32) (off := 31) hx hb dX5_madeAnswer_1 (by rw [c1]; decide) (by rw [c1]; decide) (by rw [c1]; rfl) (by decide) ?_
    refine lv_iload_n hx hb dX5_madeAnswer_32 rfl (lv_at hl 2 rfl) ?_
    refine lv_iload_n hx hb dX5_madeAnswer_33 rfl (lv_at hl 3 rfl) ?_
    refine va_mmin hx hb (hml.trans hl.1.symm) hown (hw _ bw396) (hw _ bw123) (hw _ bw124) (hw _ bw125) (Nat.le_of_ble_eq_true rfl) (Nat.le_of_ble_eq_true rfl) (Nat.zero_le _) (Nat.zero_le _) dX5_madeAnswer_34 ?_
    exact xi_retS (fr := (fun r => r)) (fw := (fun r => wX E g a)) hx hb hr hlocks hf hP hS dX5_madeAnswer_37
  · replace hf := (if_neg c1).symm.trans hf
    by_cases c2 : v1 = 1
    · replace hf := (if_pos c2).symm.trans hf
      refine lv_tableIn (tgt := 38) (off := 37) hx hb dX5_madeAnswer_1 (by rw [c2]; decide) (by rw [c2]; decide) (by rw [c2]; rfl) (by decide) ?_
      refine lv_iload_n hx hb dX5_madeAnswer_38 rfl (lv_at hl 2 rfl) ?_
      refine lv_iload_n hx hb dX5_madeAnswer_39 rfl (lv_at hl 3 rfl) ?_
      refine va_mmax hx hb (hml.trans hl.1.symm) hown (hw _ bw397) (hw _ bw331) (hw _ bw124) (hw _ bw332) (Nat.le_of_ble_eq_true rfl) (Nat.le_of_ble_eq_true rfl) (Nat.zero_le _) (Nat.zero_le _) dX5_madeAnswer_40 ?_
      exact xi_retS (fr := (fun r => r)) (fw := (fun r => wX E g a)) hx hb hr hlocks hf hP hS dX5_madeAnswer_43
    · replace hf := (if_neg c2).symm.trans hf
      by_cases c3 : v1 = 2
      · replace hf := (if_pos c3).symm.trans hf
        refine lv_tableIn (tgt := 44) (off := 43) hx hb dX5_madeAnswer_1 (by rw [c3]; decide) (by rw [c3]; decide) (by rw [c3]; rfl) (by decide) ?_
        refine lv_iload_n hx hb dX5_madeAnswer_44 rfl (lv_at hl 2 rfl) ?_
        refine lv_iload_n hx hb dX5_madeAnswer_45 rfl (lv_at hl 3 rfl) ?_
        refine va_mmin hx hb (hml.trans hl.1.symm) hown (hw _ bw396) (hw _ bw123) (hw _ bw124) (hw _ bw125) (Nat.le_of_ble_eq_true rfl) (Nat.le_of_ble_eq_true rfl) (Nat.zero_le _) (Nat.zero_le _) dX5_madeAnswer_46 ?_
        refine lv_iload_n hx hb dX5_madeAnswer_49 rfl (lv_at hl 2 rfl) ?_
        refine lv_iload_n hx hb dX5_madeAnswer_50 rfl (lv_at hl 3 rfl) ?_
        refine va_mmax hx hb (hml.trans hl.1.symm) hown (hw _ bw397) (hw _ bw331) (hw _ bw124) (hw _ bw332) (Nat.le_of_ble_eq_true rfl) (Nat.le_of_ble_eq_true rfl) (Nat.zero_le _) (Nat.zero_le _) dX5_madeAnswer_51 ?_
        refine lv_iload hx hb dX5_madeAnswer_54 (lv_at hl 4 rfl) ?_
        refine va_mmin hx hb (hml.trans hl.1.symm) hown (hw _ bw396) (hw _ bw123) (hw _ bw124) (hw _ bw125) (Nat.le_of_ble_eq_true rfl) (Nat.le_of_ble_eq_true rfl) (Nat.zero_le _) (Nat.zero_le _) dX5_madeAnswer_56 ?_
        refine va_mmax hx hb (hml.trans hl.1.symm) hown (hw _ bw397) (hw _ bw331) (hw _ bw124) (hw _ bw332) (Nat.le_of_ble_eq_true rfl) (Nat.le_of_ble_eq_true rfl) (Nat.zero_le _) (Nat.zero_le _) dX5_madeAnswer_59 ?_
        exact xi_retS (fr := (fun r => r)) (fw := (fun r => wX E g a)) hx hb hr hlocks hf hP hS dX5_madeAnswer_62
      · replace hf := (if_neg c3).symm.trans hf
        by_cases c4 : v1 = 3
        · replace hf := (if_pos c4).symm.trans hf
          refine lv_tableIn (tgt := 63) (off := 62) hx hb dX5_madeAnswer_1 (by rw [c4]; decide) (by rw [c4]; decide) (by rw [c4]; rfl) (by decide) ?_
          refine lv_aload_n hx hb dX5_madeAnswer_63 rfl (lv_at hl 0 rfl) ?_
          refine lv_iload_n hx hb dX5_madeAnswer_64 rfl (lv_at hl 2 rfl) ?_
          refine lv_iload_n hx hb dX5_madeAnswer_65 rfl (lv_at hl 3 rfl) ?_
          refine lv_isub hx hb dX5_madeAnswer_66 ?_
          refine lv_iload hx hb dX5_madeAnswer_67 (lv_at hl 4 rfl) ?_
          refine lv_iadd hx hb dX5_madeAnswer_69 ?_
          refine xci (xRunV (rest := []) (As := [.int ((v2 - v3) + v4)]) (C := RX5) (k := 1) C0 (c_X5_remainder l E k hk g a ((v2 - v3) + v4)) bw394 bw398 bw44 bw399 bw400 hd_X5_remainder ⟨Nat.le_of_ble_eq_true rfl, Nat.le_of_ble_eq_true rfl⟩ hP (wX_D hD) hS (va_recv hK hP (ci := 5) rfl (gx_op E g a k hk)) rfl hl.1 rfl (Nat.le_of_ble_eq_true rfl) dX5_madeAnswer_70 ⟨Nat.zero_le _, Nat.zero_le _⟩) hS (fun H locs hP hS => ?_)
          exact xi_retS (fr := (fun r => r)) (fw := (fun r => wX E g a)) hx hb hr hlocks hf hP hS dX5_madeAnswer_73
        · replace hf := (if_neg c4).symm.trans hf
          refine lv_tableOut (tgt := 74) hx hb dX5_madeAnswer_1 (by have h9 := tsw0 (x := v1) 4 (by decide) (by intro i hi; match i, hi with | 0, _ => exact c1 | 1, _ => exact c2 | 2, _ => exact c3 | 3, _ => exact c4); omega) (by decide) ?_
          refine lv_aload_n hx hb dX5_madeAnswer_74 rfl (lv_at hl 0 rfl) ?_
          refine lv_iload_n hx hb dX5_madeAnswer_75 rfl (lv_at hl 2 rfl) ?_
          refine lv_iconst (v := 1) hx hb dX5_madeAnswer_76 (by decide) ?_
          refine lv_iadd hx hb dX5_madeAnswer_77 ?_
          refine xci (xRunV (rest := []) (As := [.int (v2 + 1)]) (C := RX5) (k := 1) C0 (c_X5_remainder l E k hk g a (v2 + 1)) bw394 bw398 bw44 bw399 bw400 hd_X5_remainder ⟨Nat.le_of_ble_eq_true rfl, Nat.le_of_ble_eq_true rfl⟩ hP (wX_D hD) hS (va_recv hK hP (ci := 5) rfl (gx_op E g a k hk)) rfl hl.1 rfl (Nat.le_of_ble_eq_true rfl) dX5_madeAnswer_78 ⟨Nat.zero_le _, Nat.zero_le _⟩) hS (fun H locs hP hS => ?_)
          exact xi_retS (fr := (fun r => r)) (fw := (fun r => wX E g a)) hx hb hr hlocks hf hP hS dX5_madeAnswer_81
def f_X5_become_29 (k : Nat) : Nat → xG → xA → Int32 → Int32 → Option (xG × xA)
  | 0, _, _, _, _ => none
  | n + 1, g, a, x1, x2 => (if (t_X5_points k g a) ≤ x2 then some (g, a) else f_X5_become_29 k n g (t_X5_setAnswer k g a x2 (t_X5_madeAnswer k g a x1 (t_X4_digit g a x2 0) (t_X4_digit g a x2 1) (t_X4_digit g a x2 2))) x1 (x2 + 1))
theorem e_X5_become_29 (k : Nat) (n : Nat) (g : xG) (a : xA) (x1 : Int32) (x2 : Int32) : f_X5_become_29 k (n + 1) g a x1 x2 = (if (t_X5_points k g a) ≤ x2 then some (g, a) else f_X5_become_29 k n g (t_X5_setAnswer k g a x2 (t_X5_madeAnswer k g a x1 (t_X4_digit g a x2 0) (t_X4_digit g a x2 1) (t_X4_digit g a x2 2))) x1 (x2 + 1)) := rfl
def f_X5_become_24 (k : Nat) (g : xG) (a : xA) (x1 : Int32) (s0 : Int32) : Option (xG × xA) := Option.bind (f_X5_begin k g a s0) (fun u4 => f_X5_become_29 k fu u4.1 u4.2 x1 0)
def f_X5_become (k : Nat) (g : xG) (a : xA) (v1 : Int32) : Option (xG × xA) := (if v1 = 0 then f_X5_become_24 k g a v1 2 else (if v1 = 1 then f_X5_become_24 k g a v1 2 else (if v1 = 4 then f_X5_become_24 k g a v1 1 else f_X5_become_24 k g a v1 3)))
set_option maxRecDepth 100000 in
set_option maxHeartbeats 40000000 in
theorem c_X5_become (l : Launch) (E : xE) (k : Nat) (hk : k < 7) (g : xG) (a : xA) (v1 : Int32) {res : xG × xA} (hf : f_X5_become k g a v1 = some res) : xM l E yX5_become cX5_become 6 none 4 84 [.ref (E.2.1 (40 + k)), .int v1] (wX E g a) (xQv E (wX E res.1 res.2)) := by
  unfold f_X5_become at hf
  refine xM_of (by decide) (Nat.le_of_ble_eq_true rfl) ?_
  intro p e s m below meth c A hx hb hr hml hts hown hlocks hA hD hP hK hN hS ls hl
  have hw : ∀ w ∈ BW, w.before _ s = true := fun w h => hts w (List.mem_cons_of_mem _ h)
  have C0 : xCtx E p m c cX5_become 6 s _ RX5 A yX5_become cX5_become 6 none := ⟨hx, hb, hml, hown, hts, hA, hK, hN⟩
  have hl : lv_has ls 6 [(0, .ref (E.2.1 (40 + k))), (1, .int v1)] := hl
  have B29 : ∀ (n : Nat) (g : xG) (a : xA) (x1 : Int32) (x2 : Int32) (H : Heap) (locs : List Loc) (ls : Array Slot), va_P E.1 vwCl (wX E g a) H → va_S A s.heap H locs → lv_has ls 6 [(0, .ref (E.2.1 (40 + k))), (1, .int x1), (2, .int x2)] → f_X5_become_29 k n g a x1 x2 = some res → W p l e ({ frames := 4, cells := 0, slots := 0, locals := 84 }) s m ([.ref (E.2.1 (40 + k)), .int v1] : List Value).toArray below meth c H locs 0 0 (MQ below ((xQv E (wX E res.1 res.2)) A) ([.ref (E.2.1 (40 + k)), .int v1] : List Value).toArray s 0 0 A) (F0 m 29 ls []) := by
    intro n
    induction n with
    | zero => intro g a x1 x2 H locs ls hP hS hl hf; exact absurd (show (none : Option (xG × xA)) = some res from hf) (by intro h; cases h)
    | succ n ih =>
      intro g a x1 x2 H locs ls hP hS hl hf
      replace hf := (e_X5_become_29 k n g a x1 x2).symm.trans hf
      refine lv_iload_n hx hb dX5_become_29 rfl (lv_at hl 2 rfl) ?_
      refine lv_aload_n hx hb dX5_become_30 rfl (lv_at hl 0 rfl) ?_
      refine xci (xRunV (rest := [.int x2]) (As := []) (C := RX5) (k := 0) C0 (c_X5_points l E k hk g a) bw278 bw281 bw44 bw282 bw283 hd_X5_points ⟨Nat.le_of_ble_eq_true rfl, Nat.le_of_ble_eq_true rfl⟩ hP (wX_D hD) hS (va_recv hK hP (ci := 5) rfl (gx_op E g a k hk)) rfl hl.1 rfl (Nat.le_of_ble_eq_true rfl) dX5_become_31 ⟨Nat.zero_le _, Nat.zero_le _⟩) hS (fun H locs hP hS => ?_)
      refine lv_icmp_ge (tgt := 90) hx hb dX5_become_34 (by decide) (fun c6 => ?_) (fun c6 => ?_)
      · replace hf := (if_pos c6).symm.trans hf
        exact xv_retS (fw := (fun r => wX E r.1 r.2)) hx hb hr hlocks (Option.some.inj hf) hP hS dX5_become_90
      · replace hf := (if_neg c6).symm.trans hf
        refine lv_aload_n hx hb dX5_become_37 rfl (lv_at hl 0 rfl) ?_
        refine va_get (C := RX5) (T := TX5) (N := 3) hx hb hw bfX50 hown hK hP (40 + k) (gx_op E g a k hk) rfl 0 (by decide) (hw _ bw35) (fun _ h9 => h9) rfl dX5_become_38 ?_
        refine lv_iload_n hx hb dX5_become_41 rfl (lv_at hl 2 rfl) ?_
        refine lv_iconst (v := 0) hx hb dX5_become_42 (by decide) ?_
        refine xci (xRunV (rest := []) (As := [.int x2, .int 0]) (C := RX4) (k := 2) C0 (c_X4_digit l E g a x2 0) bw174 bw284 bw22 bw199 bw200 hd_X4_digit ⟨Nat.le_of_ble_eq_true rfl, Nat.le_of_ble_eq_true rfl⟩ hP (wX_D hD) hS (va_recv hK hP (ci := 4) rfl (gx_1 E g a)) rfl hl.1 rfl (Nat.le_of_ble_eq_true rfl) dX5_become_43 ⟨Nat.zero_le _, Nat.zero_le _⟩) hS (fun H locs hP hS => ?_)
        refine lv_istore_n (lv' := [(3, .int (t_X4_digit g a x2 0)), (0, .ref (E.2.1 (40 + k))), (1, .int x1), (2, .int x2)]) hx hb dX5_become_46 rfl hl (by decide) rfl (fun ls hl => ?_)
        refine lv_aload_n hx hb dX5_become_47 rfl (lv_at hl 1 rfl) ?_
        refine va_get (C := RX5) (T := TX5) (N := 3) hx hb hw bfX50 hown hK hP (40 + k) (gx_op E g a k hk) rfl 0 (by decide) (hw _ bw35) (fun _ h9 => h9) rfl dX5_become_48 ?_
        refine lv_iload_n hx hb dX5_become_51 rfl (lv_at hl 3 rfl) ?_
        refine lv_iconst (v := 1) hx hb dX5_become_52 (by decide) ?_
        refine xci (xRunV (rest := []) (As := [.int x2, .int 1]) (C := RX4) (k := 2) C0 (c_X4_digit l E g a x2 1) bw174 bw284 bw22 bw199 bw200 hd_X4_digit ⟨Nat.le_of_ble_eq_true rfl, Nat.le_of_ble_eq_true rfl⟩ hP (wX_D hD) hS (va_recv hK hP (ci := 4) rfl (gx_1 E g a)) rfl hl.1 rfl (Nat.le_of_ble_eq_true rfl) dX5_become_53 ⟨Nat.zero_le _, Nat.zero_le _⟩) hS (fun H locs hP hS => ?_)
        refine lv_istore (lv' := [(4, .int (t_X4_digit g a x2 1)), (3, .int (t_X4_digit g a x2 0)), (0, .ref (E.2.1 (40 + k))), (1, .int x1), (2, .int x2)]) hx hb dX5_become_56 hl (by decide) rfl (fun ls hl => ?_)
        refine lv_aload_n hx hb dX5_become_58 rfl (lv_at hl 2 rfl) ?_
        refine va_get (C := RX5) (T := TX5) (N := 3) hx hb hw bfX50 hown hK hP (40 + k) (gx_op E g a k hk) rfl 0 (by decide) (hw _ bw35) (fun _ h9 => h9) rfl dX5_become_59 ?_
        refine lv_iload_n hx hb dX5_become_62 rfl (lv_at hl 4 rfl) ?_
        refine lv_iconst (v := 2) hx hb dX5_become_63 (by decide) ?_
        refine xci (xRunV (rest := []) (As := [.int x2, .int 2]) (C := RX4) (k := 2) C0 (c_X4_digit l E g a x2 2) bw174 bw284 bw22 bw199 bw200 hd_X4_digit ⟨Nat.le_of_ble_eq_true rfl, Nat.le_of_ble_eq_true rfl⟩ hP (wX_D hD) hS (va_recv hK hP (ci := 4) rfl (gx_1 E g a)) rfl hl.1 rfl (Nat.le_of_ble_eq_true rfl) dX5_become_64 ⟨Nat.zero_le _, Nat.zero_le _⟩) hS (fun H locs hP hS => ?_)
        refine lv_istore (lv' := [(5, .int (t_X4_digit g a x2 2)), (4, .int (t_X4_digit g a x2 1)), (3, .int (t_X4_digit g a x2 0)), (0, .ref (E.2.1 (40 + k))), (1, .int x1), (2, .int x2)]) hx hb dX5_become_67 hl (by decide) rfl (fun ls hl => ?_)
        refine lv_aload_n hx hb dX5_become_69 rfl (lv_at hl 3 rfl) ?_
        refine lv_iload_n hx hb dX5_become_70 rfl (lv_at hl 5 rfl) ?_
        refine lv_aload_n hx hb dX5_become_71 rfl (lv_at hl 3 rfl) ?_
        refine lv_iload_n hx hb dX5_become_72 rfl (lv_at hl 4 rfl) ?_
        refine lv_iload_n hx hb dX5_become_73 rfl (lv_at hl 2 rfl) ?_
        refine lv_iload hx hb dX5_become_74 (lv_at hl 1 rfl) ?_
        refine lv_iload hx hb dX5_become_76 (lv_at hl 0 rfl) ?_
        refine xci (xRunV (rest := [.int x2, .ref (E.2.1 (40 + k))]) (As := [.int x1, .int (t_X4_digit g a x2 0), .int (t_X4_digit g a x2 1), .int (t_X4_digit g a x2 2)]) (C := RX5) (k := 4) C0 (c_X5_madeAnswer l E k hk g a x1 (t_X4_digit g a x2 0) (t_X4_digit g a x2 1) (t_X4_digit g a x2 2)) bw395 bw402 bw44 bw403 bw404 hd_X5_madeAnswer ⟨Nat.le_of_ble_eq_true rfl, Nat.le_of_ble_eq_true rfl⟩ hP (wX_D hD) hS (va_recv hK hP (ci := 5) rfl (gx_op E g a k hk)) rfl hl.1 rfl (Nat.le_of_ble_eq_true rfl) dX5_become_78 ⟨Nat.zero_le _, Nat.zero_le _⟩) hS (fun H locs hP hS => ?_)
        refine xcv (xRunV (rest := []) (As := [.int x2, .int (t_X5_madeAnswer k g a x1 (t_X4_digit g a x2 0) (t_X4_digit g a x2 1) (t_X4_digit g a x2 2))]) (C := RX5) (k := 2) C0 (c_X5_setAnswer l E k hk g a x2 (t_X5_madeAnswer k g a x1 (t_X4_digit g a x2 0) (t_X4_digit g a x2 1) (t_X4_digit g a x2 2))) bw280 bw285 bw44 bw286 bw287 hd_X5_setAnswer ⟨Nat.le_of_ble_eq_true rfl, Nat.le_of_ble_eq_true rfl⟩ hP (wX_D hD) hS (va_recv hK hP (ci := 5) rfl (gx_op E g a k hk)) rfl hl.1 rfl (Nat.le_of_ble_eq_true rfl) dX5_become_81 ⟨Nat.zero_le _, Nat.zero_le _⟩) hS (fun H locs hP hS => ?_)
        refine lv_iinc (v := (x2 + 1)) (lv' := [(2, .int (x2 + 1)), (5, .int (t_X4_digit g a x2 2)), (4, .int (t_X4_digit g a x2 1)), (3, .int (t_X4_digit g a x2 0)), (0, .ref (E.2.1 (40 + k))), (1, .int x1)]) hx hb dX5_become_84 hl (k := 5) rfl rfl (by decide) rfl (fun ls hl => ?_)
        refine lv_goto (tgt := 29) hx hb dX5_become_87 (by decide) ?_
        exact ih g (t_X5_setAnswer k g a x2 (t_X5_madeAnswer k g a x1 (t_X4_digit g a x2 0) (t_X4_digit g a x2 1) (t_X4_digit g a x2 2))) x1 (x2 + 1) _ _ _ hP hS (lv_sub hl [4, 5, 0] rfl) hf
  have B24 : ∀ (g : xG) (a : xA) (x1 : Int32) (s0 : Int32) (H : Heap) (locs : List Loc) (ls : Array Slot), va_P E.1 vwCl (wX E g a) H → va_S A s.heap H locs → lv_has ls 6 [(0, .ref (E.2.1 (40 + k))), (1, .int x1)] → f_X5_become_24 k g a x1 s0 = some res → W p l e ({ frames := 4, cells := 0, slots := 0, locals := 84 }) s m ([.ref (E.2.1 (40 + k)), .int v1] : List Value).toArray below meth c H locs 0 0 (MQ below ((xQv E (wX E res.1 res.2)) A) ([.ref (E.2.1 (40 + k)), .int v1] : List Value).toArray s 0 0 A) (F0 m 24 ls [.int s0, .ref (E.2.1 (40 + k))]) := by
    intro g a x1 s0 H locs ls hP hS hl hf
    unfold f_X5_become_24 at hf
    obtain ⟨u4, e5, hf⟩ := bd_some hf
    refine xcv (xRunV (rest := []) (As := [.int s0]) (C := RX5) (k := 1) C0 (c_X5_begin l E k hk g a s0 e5) bw288 bw401 bw44 bw297 bw298 hd_X5_begin ⟨Nat.le_of_ble_eq_true rfl, Nat.le_of_ble_eq_true rfl⟩ hP (wX_D hD) hS (va_recv hK hP (ci := 5) rfl (gx_op E g a k hk)) rfl hl.1 rfl (Nat.le_of_ble_eq_true rfl) dX5_become_24 ⟨Nat.zero_le _, Nat.zero_le _⟩) hS (fun H locs hP hS => ?_)
    refine lv_iconst (v := 0) hx hb dX5_become_27 (by decide) ?_
    refine lv_istore_n (lv' := [(2, .int 0), (0, .ref (E.2.1 (40 + k))), (1, .int x1)]) hx hb dX5_become_28 rfl hl (by decide) rfl (fun ls hl => ?_)
    exact B29 fu u4.1 u4.2 x1 0 _ _ _ hP hS (lv_sub hl [1, 2, 0] rfl) hf
  refine lv_aload_n hx hb dX5_become_0 rfl (lv_at hl 0 rfl) ?_
  refine lv_iload_n hx hb dX5_become_1 rfl (lv_at hl 1 rfl) ?_
  refine lv_if_eq (tgt := 10) hx hb dX5_become_2 (by decide) (fun c1 => ?_) (fun c1 => ?_)
  · replace hf := (if_pos c1).symm.trans hf
    refine lv_iconst (v := 2) hx hb dX5_become_10 (by decide) ?_
    refine lv_goto (tgt := 24) hx hb dX5_become_11 (by decide) ?_
    exact B24 g a v1 2 _ _ _ hP hS (lv_sub hl [0, 1] rfl) hf
  · replace hf := (if_neg c1).symm.trans hf
    refine lv_iload_n hx hb dX5_become_5 rfl (lv_at hl 1 rfl) ?_
    refine lv_iconst (v := 1) hx hb dX5_become_6 (by decide) ?_
    refine lv_icmp_ne (tgt := 14) hx hb dX5_become_7 (by decide) (fun c2 => ?_) (fun c2 => ?_)
    · replace hf := (if_neg c2).symm.trans hf
      refine lv_iload_n hx hb dX5_become_14 rfl (lv_at hl 1 rfl) ?_
      refine lv_iconst (v := 4) hx hb dX5_become_15 (by decide) ?_
      refine lv_icmp_ne (tgt := 23) hx hb dX5_become_16 (by decide) (fun c3 => ?_) (fun c3 => ?_)
      · replace hf := (if_neg c3).symm.trans hf
        refine lv_iconst (v := 3) hx hb dX5_become_23 (by decide) ?_
        exact B24 g a v1 3 _ _ _ hP hS (lv_sub hl [0, 1] rfl) hf
      · replace hf := (if_pos c3).symm.trans hf
        refine lv_iconst (v := 1) hx hb dX5_become_19 (by decide) ?_
        refine lv_goto (tgt := 24) hx hb dX5_become_20 (by decide) ?_
        exact B24 g a v1 1 _ _ _ hP hS (lv_sub hl [0, 1] rfl) hf
    · replace hf := (if_pos c2).symm.trans hf
      refine lv_iconst (v := 2) hx hb dX5_become_10 (by decide) ?_
      refine lv_goto (tgt := 24) hx hb dX5_become_11 (by decide) ?_
      exact B24 g a v1 2 _ _ _ hP hS (lv_sub hl [0, 1] rfl) hf
def f_X3_firstSum (g : xG) (a : xA) : Option (Int64 × xG × xA) := Option.bind (f_X5_become 6 g a 3) (fun u1 => Option.bind (f_X3_triedKeepsAll u1.1 u1.2) (fun u3 => (if u3.1 = 0 then some ((-1), u3.2.1, u3.2.2) else Option.bind (f_X5_wholeCode 6 u3.2.1 u3.2.2) (fun u6 => some (u6, u3.2.1, u3.2.2)))))
set_option maxRecDepth 100000 in
set_option maxHeartbeats 40000000 in
theorem c_X3_firstSum (l : Launch) (E : xE) (g : xG) (a : xA) {res : Int64 × xG × xA} (hf : f_X3_firstSum g a = some res) : xM l E yX3_firstSum cX3_firstSum 1 (some .long) 6 136 [.ref (E.2.1 13)] (wX E g a) (xQl E res.1 (wX E res.2.1 res.2.2)) := by
  unfold f_X3_firstSum at hf
  refine xM_of (by decide) (Nat.le_of_ble_eq_true rfl) ?_
  intro p e s m below meth c A hx hb hr hml hts hown hlocks hA hD hP hK hN hS ls hl
  have hw : ∀ w ∈ BW, w.before _ s = true := fun w h => hts w (List.mem_cons_of_mem _ h)
  have C0 : xCtx E p m c cX3_firstSum 1 s _ RX3 A yX3_firstSum cX3_firstSum 1 (some .long) := ⟨hx, hb, hml, hown, hts, hA, hK, hN⟩
  have hl : lv_has ls 1 [(0, .ref (E.2.1 13))] := hl
  refine lv_aload_n hx hb dX3_firstSum_0 rfl (lv_at hl 0 rfl) ?_
  refine va_get (C := RX3) (T := TX3) (N := 5) hx hb hw bfX30 hown hK hP 13 (gx_13 E g a) rfl 4 (by decide) (hw _ bw267) (fun _ h9 => h9) rfl dX3_firstSum_1 ?_
  refine lv_iconst (v := 3) hx hb dX3_firstSum_4 (by decide) ?_
  obtain ⟨u1, e2, hf⟩ := bd_some hf
  refine xcv (xRunV (rest := []) (As := [.int 3]) (C := RX5) (k := 1) C0 (c_X5_become l E 6 (by decide) g a 3 e2) bw405 bw406 bw44 bw407 bw408 hd_X5_become ⟨Nat.le_of_ble_eq_true rfl, Nat.le_of_ble_eq_true rfl⟩ hP (wX_D hD) hS (va_recv hK hP (ci := 5) rfl (gx_46 E g a)) rfl hl.1 rfl (Nat.le_of_ble_eq_true rfl) dX3_firstSum_5 ⟨Nat.zero_le _, Nat.zero_le _⟩) hS (fun H locs hP hS => ?_)
  refine lv_aload_n hx hb dX3_firstSum_8 rfl (lv_at hl 0 rfl) ?_
  obtain ⟨u3, e4, hf⟩ := bd_some hf
  refine xci (xRunV (rest := []) (As := []) (C := RX3) (k := 0) C0 (c_X3_triedKeepsAll l E u1.1 u1.2 e4) bw277 bw300 bw303 bw301 bw302 hd_X3_triedKeepsAll ⟨Nat.le_of_ble_eq_true rfl, Nat.le_of_ble_eq_true rfl⟩ hP (wX_D hD) hS (va_recv hK hP (ci := 3) rfl (gx_13 E u1.1 u1.2)) rfl hl.1 rfl (Nat.le_of_ble_eq_true rfl) dX3_firstSum_9 ⟨Nat.zero_le _, Nat.zero_le _⟩) hS (fun H locs hP hS => ?_)
  refine lv_if_eq (tgt := 25) hx hb dX3_firstSum_12 (by decide) (fun c5 => ?_) (fun c5 => ?_)
  · replace hf := (if_pos c5).symm.trans hf
    refine lv_ldc2 hx hb hown (hw _ bw295) dX3_firstSum_25 ?_
    exact xl_retS (fr := (fun r => r.1)) (fw := (fun r => wX E r.2.1 r.2.2)) hx hb hr hlocks (Option.some.inj hf) hP hS dX3_firstSum_28
  · replace hf := (if_neg c5).symm.trans hf
    refine lv_aload_n hx hb dX3_firstSum_15 rfl (lv_at hl 0 rfl) ?_
    refine va_get (C := RX3) (T := TX3) (N := 5) hx hb hw bfX30 hown hK hP 13 (gx_13 E u3.2.1 u3.2.2) rfl 4 (by decide) (hw _ bw267) (fun _ h9 => h9) rfl dX3_firstSum_16 ?_
    obtain ⟨u6, e7, hf⟩ := bd_some hf
    refine xcl (xRunV (rest := []) (As := []) (C := RX5) (k := 0) C0 (c_X5_wholeCode l E 6 (by decide) u3.2.1 u3.2.2 e7) bw290 bw304 bw44 bw305 bw306 hd_X5_wholeCode ⟨Nat.le_of_ble_eq_true rfl, Nat.le_of_ble_eq_true rfl⟩ hP (wX_D hD) hS (va_recv hK hP (ci := 5) rfl (gx_46 E u3.2.1 u3.2.2)) rfl hl.1 rfl (Nat.le_of_ble_eq_true rfl) dX3_firstSum_19 ⟨Nat.zero_le _, Nat.zero_le _⟩) hS (fun H locs hP hS => ?_)
    refine lv_goto (tgt := 28) hx hb dX3_firstSum_22 (by decide) ?_
    exact xl_retS (fr := (fun r => r.1)) (fw := (fun r => wX E r.2.1 r.2.2)) hx hb hr hlocks (Option.some.inj hf) hP hS dX3_firstSum_28
def f_X5_becomeUnary_7 (k : Nat) : Nat → xG → xA → Int32 → Int32 → Option (xG × xA)
  | 0, _, _, _, _ => none
  | n + 1, g, a, x1, x2 => (if (t_X5_points k g a) ≤ x2 then some (g, a) else f_X5_becomeUnary_7 k n g (t_X5_setAnswer k g a x2 (t_X4_digit g a x1 x2)) x1 (x2 + 1))
theorem e_X5_becomeUnary_7 (k : Nat) (n : Nat) (g : xG) (a : xA) (x1 : Int32) (x2 : Int32) : f_X5_becomeUnary_7 k (n + 1) g a x1 x2 = (if (t_X5_points k g a) ≤ x2 then some (g, a) else f_X5_becomeUnary_7 k n g (t_X5_setAnswer k g a x2 (t_X4_digit g a x1 x2)) x1 (x2 + 1)) := rfl
def f_X5_becomeUnary (k : Nat) (g : xG) (a : xA) (v1 : Int32) : Option (xG × xA) := Option.bind (f_X5_begin k g a 1) (fun u1 => f_X5_becomeUnary_7 k fu u1.1 u1.2 v1 0)
set_option maxRecDepth 100000 in
set_option maxHeartbeats 40000000 in
theorem c_X5_becomeUnary (l : Launch) (E : xE) (k : Nat) (hk : k < 7) (g : xG) (a : xA) (v1 : Int32) {res : xG × xA} (hf : f_X5_becomeUnary k g a v1 = some res) : xM l E yX5_becomeUnary cX5_becomeUnary 3 none 4 84 [.ref (E.2.1 (40 + k)), .int v1] (wX E g a) (xQv E (wX E res.1 res.2)) := by
  unfold f_X5_becomeUnary at hf
  refine xM_of (by decide) (Nat.le_of_ble_eq_true rfl) ?_
  intro p e s m below meth c A hx hb hr hml hts hown hlocks hA hD hP hK hN hS ls hl
  have hw : ∀ w ∈ BW, w.before _ s = true := fun w h => hts w (List.mem_cons_of_mem _ h)
  have C0 : xCtx E p m c cX5_becomeUnary 3 s _ RX5 A yX5_becomeUnary cX5_becomeUnary 3 none := ⟨hx, hb, hml, hown, hts, hA, hK, hN⟩
  have hl : lv_has ls 3 [(0, .ref (E.2.1 (40 + k))), (1, .int v1)] := hl
  have B7 : ∀ (n : Nat) (g : xG) (a : xA) (x1 : Int32) (x2 : Int32) (H : Heap) (locs : List Loc) (ls : Array Slot), va_P E.1 vwCl (wX E g a) H → va_S A s.heap H locs → lv_has ls 3 [(0, .ref (E.2.1 (40 + k))), (1, .int x1), (2, .int x2)] → f_X5_becomeUnary_7 k n g a x1 x2 = some res → W p l e ({ frames := 4, cells := 0, slots := 0, locals := 84 }) s m ([.ref (E.2.1 (40 + k)), .int v1] : List Value).toArray below meth c H locs 0 0 (MQ below ((xQv E (wX E res.1 res.2)) A) ([.ref (E.2.1 (40 + k)), .int v1] : List Value).toArray s 0 0 A) (F0 m 7 ls []) := by
    intro n
    induction n with
    | zero => intro g a x1 x2 H locs ls hP hS hl hf; exact absurd (show (none : Option (xG × xA)) = some res from hf) (by intro h; cases h)
    | succ n ih =>
      intro g a x1 x2 H locs ls hP hS hl hf
      replace hf := (e_X5_becomeUnary_7 k n g a x1 x2).symm.trans hf
      refine lv_iload_n hx hb dX5_becomeUnary_7 rfl (lv_at hl 2 rfl) ?_
      refine lv_aload_n hx hb dX5_becomeUnary_8 rfl (lv_at hl 0 rfl) ?_
      refine xci (xRunV (rest := [.int x2]) (As := []) (C := RX5) (k := 0) C0 (c_X5_points l E k hk g a) bw278 bw281 bw44 bw282 bw283 hd_X5_points ⟨Nat.le_of_ble_eq_true rfl, Nat.le_of_ble_eq_true rfl⟩ hP (wX_D hD) hS (va_recv hK hP (ci := 5) rfl (gx_op E g a k hk)) rfl hl.1 rfl (Nat.le_of_ble_eq_true rfl) dX5_becomeUnary_9 ⟨Nat.zero_le _, Nat.zero_le _⟩) hS (fun H locs hP hS => ?_)
      refine lv_icmp_ge (tgt := 35) hx hb dX5_becomeUnary_12 (by decide) (fun c3 => ?_) (fun c3 => ?_)
      · replace hf := (if_pos c3).symm.trans hf
        exact xv_retS (fw := (fun r => wX E r.1 r.2)) hx hb hr hlocks (Option.some.inj hf) hP hS dX5_becomeUnary_35
      · replace hf := (if_neg c3).symm.trans hf
        refine lv_aload_n hx hb dX5_becomeUnary_15 rfl (lv_at hl 0 rfl) ?_
        refine lv_iload_n hx hb dX5_becomeUnary_16 rfl (lv_at hl 2 rfl) ?_
        refine lv_aload_n hx hb dX5_becomeUnary_17 rfl (lv_at hl 0 rfl) ?_
        refine va_get (C := RX5) (T := TX5) (N := 3) hx hb hw bfX50 hown hK hP (40 + k) (gx_op E g a k hk) rfl 0 (by decide) (hw _ bw35) (fun _ h9 => h9) rfl dX5_becomeUnary_18 ?_
        refine lv_iload_n hx hb dX5_becomeUnary_21 rfl (lv_at hl 1 rfl) ?_
        refine lv_iload_n hx hb dX5_becomeUnary_22 rfl (lv_at hl 2 rfl) ?_
        refine xci (xRunV (rest := [.int x2, .ref (E.2.1 (40 + k))]) (As := [.int x1, .int x2]) (C := RX4) (k := 2) C0 (c_X4_digit l E g a x1 x2) bw174 bw284 bw22 bw199 bw200 hd_X4_digit ⟨Nat.le_of_ble_eq_true rfl, Nat.le_of_ble_eq_true rfl⟩ hP (wX_D hD) hS (va_recv hK hP (ci := 4) rfl (gx_1 E g a)) rfl hl.1 rfl (Nat.le_of_ble_eq_true rfl) dX5_becomeUnary_23 ⟨Nat.zero_le _, Nat.zero_le _⟩) hS (fun H locs hP hS => ?_)
        refine xcv (xRunV (rest := []) (As := [.int x2, .int (t_X4_digit g a x1 x2)]) (C := RX5) (k := 2) C0 (c_X5_setAnswer l E k hk g a x2 (t_X4_digit g a x1 x2)) bw280 bw285 bw44 bw286 bw287 hd_X5_setAnswer ⟨Nat.le_of_ble_eq_true rfl, Nat.le_of_ble_eq_true rfl⟩ hP (wX_D hD) hS (va_recv hK hP (ci := 5) rfl (gx_op E g a k hk)) rfl hl.1 rfl (Nat.le_of_ble_eq_true rfl) dX5_becomeUnary_26 ⟨Nat.zero_le _, Nat.zero_le _⟩) hS (fun H locs hP hS => ?_)
        refine lv_iinc (v := (x2 + 1)) (lv' := [(2, .int (x2 + 1)), (0, .ref (E.2.1 (40 + k))), (1, .int x1)]) hx hb dX5_becomeUnary_29 hl (k := 2) rfl rfl (by decide) rfl (fun ls hl => ?_)
        refine lv_goto (tgt := 7) hx hb dX5_becomeUnary_32 (by decide) ?_
        exact ih g (t_X5_setAnswer k g a x2 (t_X4_digit g a x1 x2)) x1 (x2 + 1) _ _ _ hP hS (lv_sub hl [1, 2, 0] rfl) hf
  refine lv_aload_n hx hb dX5_becomeUnary_0 rfl (lv_at hl 0 rfl) ?_
  refine lv_iconst (v := 1) hx hb dX5_becomeUnary_1 (by decide) ?_
  obtain ⟨u1, e2, hf⟩ := bd_some hf
  refine xcv (xRunV (rest := []) (As := [.int 1]) (C := RX5) (k := 1) C0 (c_X5_begin l E k hk g a 1 e2) bw288 bw401 bw44 bw297 bw298 hd_X5_begin ⟨Nat.le_of_ble_eq_true rfl, Nat.le_of_ble_eq_true rfl⟩ hP (wX_D hD) hS (va_recv hK hP (ci := 5) rfl (gx_op E g a k hk)) rfl hl.1 rfl (Nat.le_of_ble_eq_true rfl) dX5_becomeUnary_2 ⟨Nat.zero_le _, Nat.zero_le _⟩) hS (fun H locs hP hS => ?_)
  refine lv_iconst (v := 0) hx hb dX5_becomeUnary_5 (by decide) ?_
  refine lv_istore_n (lv' := [(2, .int 0), (0, .ref (E.2.1 (40 + k))), (1, .int v1)]) hx hb dX5_becomeUnary_6 rfl hl (by decide) rfl (fun ls hl => ?_)
  exact B7 fu u1.1 u1.2 v1 0 _ _ _ hP hS (lv_sub hl [1, 2, 0] rfl) hf
def f_X3_countEnds_4 : Nat → xG → xA → Int32 → Int32 → Option (Int32 × xG × xA)
  | 0, _, _, _, _ => none
  | n + 1, g, a, x1, x2 => (if (t_X4_power g a (g 0)) ≤ x2 then some (x1, g, a) else Option.bind (f_X5_becomeUnary 6 g a x2) (fun u2 => Option.bind (f_X3_triedKeepsAll u2.1 u2.2) (fun u4 => (if u4.1 = 0 then f_X3_countEnds_4 n u4.2.1 u4.2.2 x1 (x2 + 1) else f_X3_countEnds_4 n u4.2.1 u4.2.2 (x1 + 1) (x2 + 1)))))
theorem e_X3_countEnds_4 (n : Nat) (g : xG) (a : xA) (x1 : Int32) (x2 : Int32) : f_X3_countEnds_4 (n + 1) g a x1 x2 = (if (t_X4_power g a (g 0)) ≤ x2 then some (x1, g, a) else Option.bind (f_X5_becomeUnary 6 g a x2) (fun u2 => Option.bind (f_X3_triedKeepsAll u2.1 u2.2) (fun u4 => (if u4.1 = 0 then f_X3_countEnds_4 n u4.2.1 u4.2.2 x1 (x2 + 1) else f_X3_countEnds_4 n u4.2.1 u4.2.2 (x1 + 1) (x2 + 1))))) := rfl
def f_X3_countEnds (g : xG) (a : xA) : Option (Int32 × xG × xA) := f_X3_countEnds_4 fu g a 0 0
set_option maxRecDepth 100000 in
set_option maxHeartbeats 40000000 in
theorem c_X3_countEnds (l : Launch) (E : xE) (g : xG) (a : xA) {res : Int32 × xG × xA} (hf : f_X3_countEnds g a = some res) : xM l E yX3_countEnds cX3_countEnds 3 (some .int) 6 136 [.ref (E.2.1 13)] (wX E g a) (xQi E res.1 (wX E res.2.1 res.2.2)) := by
  unfold f_X3_countEnds at hf
  refine xM_of (by decide) (Nat.le_of_ble_eq_true rfl) ?_
  intro p e s m below meth c A hx hb hr hml hts hown hlocks hA hD hP hK hN hS ls hl
  have hw : ∀ w ∈ BW, w.before _ s = true := fun w h => hts w (List.mem_cons_of_mem _ h)
  have C0 : xCtx E p m c cX3_countEnds 3 s _ RX3 A yX3_countEnds cX3_countEnds 3 (some .int) := ⟨hx, hb, hml, hown, hts, hA, hK, hN⟩
  have hl : lv_has ls 3 [(0, .ref (E.2.1 13))] := hl
  have B4 : ∀ (n : Nat) (g : xG) (a : xA) (x1 : Int32) (x2 : Int32) (H : Heap) (locs : List Loc) (ls : Array Slot), va_P E.1 vwCl (wX E g a) H → va_S A s.heap H locs → lv_has ls 3 [(0, .ref (E.2.1 13)), (1, .int x1), (2, .int x2)] → f_X3_countEnds_4 n g a x1 x2 = some res → W p l e ({ frames := 6, cells := 0, slots := 0, locals := 136 }) s m ([.ref (E.2.1 13)] : List Value).toArray below meth c H locs 0 0 (MQ below ((xQi E res.1 (wX E res.2.1 res.2.2)) A) ([.ref (E.2.1 13)] : List Value).toArray s 0 0 A) (F0 m 4 ls []) := by
    intro n
    induction n with
    | zero => intro g a x1 x2 H locs ls hP hS hl hf; exact absurd (show (none : Option (Int32 × xG × xA)) = some res from hf) (by intro h; cases h)
    | succ n ih =>
      intro g a x1 x2 H locs ls hP hS hl hf
      replace hf := (e_X3_countEnds_4 n g a x1 x2).symm.trans hf
      refine lv_iload_n hx hb dX3_countEnds_4 rfl (lv_at hl 2 rfl) ?_
      refine lv_aload_n hx hb dX3_countEnds_5 rfl (lv_at hl 0 rfl) ?_
      refine va_get (C := RX3) (T := TX3) (N := 5) hx hb hw bfX30 hown hK hP 13 (gx_13 E g a) rfl 0 (by decide) (hw _ bw258) (fun _ h9 => h9) rfl dX3_countEnds_6 ?_
      refine lv_aload_n hx hb dX3_countEnds_9 rfl (lv_at hl 0 rfl) ?_
      refine va_get (C := RX3) (T := TX3) (N := 5) hx hb hw bfX30 hown hK hP 13 (gx_13 E g a) rfl 0 (by decide) (hw _ bw258) (fun _ h9 => h9) rfl dX3_countEnds_10 ?_
      refine va_get (C := RX4) (T := TX4) (N := 3) hx hb hw bfX40 hown hK hP 1 (gx_1 E g a) rfl 0 (by decide) (hw _ bw294) (fun _ h9 => h9) rfl dX3_countEnds_13 ?_
      refine xci (xRunV (rest := [.int x2]) (As := [.int (g 0)]) (C := RX4) (k := 1) C0 (c_X4_power l E g a (g 0)) bw55 bw383 bw22 bw58 bw59 hd_X4_power ⟨Nat.le_of_ble_eq_true rfl, Nat.le_of_ble_eq_true rfl⟩ hP (wX_D hD) hS (va_recv hK hP (ci := 4) rfl (gx_1 E g a)) rfl hl.1 rfl (Nat.le_of_ble_eq_true rfl) dX3_countEnds_16 ⟨Nat.zero_le _, Nat.zero_le _⟩) hS (fun H locs hP hS => ?_)
      refine lv_icmp_ge (tgt := 46) hx hb dX3_countEnds_19 (by decide) (fun c1 => ?_) (fun c1 => ?_)
      · replace hf := (if_pos c1).symm.trans hf
        refine lv_iload_n hx hb dX3_countEnds_46 rfl (lv_at hl 1 rfl) ?_
        exact xi_retS (fr := (fun r => r.1)) (fw := (fun r => wX E r.2.1 r.2.2)) hx hb hr hlocks (Option.some.inj hf) hP hS dX3_countEnds_47
      · replace hf := (if_neg c1).symm.trans hf
        refine lv_aload_n hx hb dX3_countEnds_22 rfl (lv_at hl 0 rfl) ?_
        refine va_get (C := RX3) (T := TX3) (N := 5) hx hb hw bfX30 hown hK hP 13 (gx_13 E g a) rfl 4 (by decide) (hw _ bw267) (fun _ h9 => h9) rfl dX3_countEnds_23 ?_
        refine lv_iload_n hx hb dX3_countEnds_26 rfl (lv_at hl 2 rfl) ?_
        obtain ⟨u2, e3, hf⟩ := bd_some hf
        refine xcv (xRunV (rest := []) (As := [.int x2]) (C := RX5) (k := 1) C0 (c_X5_becomeUnary l E 6 (by decide) g a x2 e3) bw410 bw411 bw44 bw412 bw413 hd_X5_becomeUnary ⟨Nat.le_of_ble_eq_true rfl, Nat.le_of_ble_eq_true rfl⟩ hP (wX_D hD) hS (va_recv hK hP (ci := 5) rfl (gx_46 E g a)) rfl hl.1 rfl (Nat.le_of_ble_eq_true rfl) dX3_countEnds_27 ⟨Nat.zero_le _, Nat.zero_le _⟩) hS (fun H locs hP hS => ?_)
        refine lv_aload_n hx hb dX3_countEnds_30 rfl (lv_at hl 0 rfl) ?_
        obtain ⟨u4, e5, hf⟩ := bd_some hf
        refine xci (xRunV (rest := []) (As := []) (C := RX3) (k := 0) C0 (c_X3_triedKeepsAll l E u2.1 u2.2 e5) bw277 bw300 bw303 bw301 bw302 hd_X3_triedKeepsAll ⟨Nat.le_of_ble_eq_true rfl, Nat.le_of_ble_eq_true rfl⟩ hP (wX_D hD) hS (va_recv hK hP (ci := 3) rfl (gx_13 E u2.1 u2.2)) rfl hl.1 rfl (Nat.le_of_ble_eq_true rfl) dX3_countEnds_31 ⟨Nat.zero_le _, Nat.zero_le _⟩) hS (fun H locs hP hS => ?_)
        refine lv_if_eq (tgt := 40) hx hb dX3_countEnds_34 (by decide) (fun c6 => ?_) (fun c6 => ?_)
        · replace hf := (if_pos c6).symm.trans hf
          refine lv_iinc (v := (x2 + 1)) (lv' := [(2, .int (x2 + 1)), (0, .ref (E.2.1 13)), (1, .int x1)]) hx hb dX3_countEnds_40 hl (k := 2) rfl rfl (by decide) rfl (fun ls hl => ?_)
          refine lv_goto (tgt := 4) hx hb dX3_countEnds_43 (by decide) ?_
          exact ih u4.2.1 u4.2.2 x1 (x2 + 1) _ _ _ hP hS (lv_sub hl [1, 2, 0] rfl) hf
        · replace hf := (if_neg c6).symm.trans hf
          refine lv_iinc (v := (x1 + 1)) (lv' := [(1, .int (x1 + 1)), (0, .ref (E.2.1 13)), (2, .int x2)]) hx hb dX3_countEnds_37 hl (k := 1) rfl rfl (by decide) rfl (fun ls hl => ?_)
          refine lv_iinc (v := (x2 + 1)) (lv' := [(2, .int (x2 + 1)), (1, .int (x1 + 1)), (0, .ref (E.2.1 13))]) hx hb dX3_countEnds_40 hl (k := 2) rfl rfl (by decide) rfl (fun ls hl => ?_)
          refine lv_goto (tgt := 4) hx hb dX3_countEnds_43 (by decide) ?_
          exact ih u4.2.1 u4.2.2 (x1 + 1) (x2 + 1) _ _ _ hP hS (lv_sub hl [2, 1, 0] rfl) hf
  refine lv_iconst (v := 0) hx hb dX3_countEnds_0 (by decide) ?_
  refine lv_istore_n (lv' := [(1, .int 0), (0, .ref (E.2.1 13))]) hx hb dX3_countEnds_1 rfl hl (by decide) rfl (fun ls hl => ?_)
  refine lv_iconst (v := 0) hx hb dX3_countEnds_2 (by decide) ?_
  refine lv_istore_n (lv' := [(2, .int 0), (1, .int 0), (0, .ref (E.2.1 13))]) hx hb dX3_countEnds_3 rfl hl (by decide) rfl (fun ls hl => ?_)
  exact B4 fu g a 0 0 _ _ _ hP hS (lv_sub hl [2, 1, 0] rfl) hf
def f_X3_answeredValues_4 (g : xG) (a : xA) : Nat → Int32 → Int32 → Option (Int32)
  | 0, _, _ => none
  | n + 1, x1, x2 => (if (g 0) ≤ x2 then some (t_J6_bitCount_0f7a4 g a x1) else f_X3_answeredValues_4 g a n (x1 ||| ((1 : Int32) <<< ((t_X5_answerAt 6 g a x2) &&& 31))) (x2 + 1))
theorem e_X3_answeredValues_4 (g : xG) (a : xA) (n : Nat) (x1 : Int32) (x2 : Int32) : f_X3_answeredValues_4 g a (n + 1) x1 x2 = (if (g 0) ≤ x2 then some (t_J6_bitCount_0f7a4 g a x1) else f_X3_answeredValues_4 g a n (x1 ||| ((1 : Int32) <<< ((t_X5_answerAt 6 g a x2) &&& 31))) (x2 + 1)) := rfl
def f_X3_answeredValues (g : xG) (a : xA) : Option (Int32) := f_X3_answeredValues_4 g a fu 0 0
set_option maxRecDepth 100000 in
set_option maxHeartbeats 40000000 in
theorem c_X3_answeredValues (l : Launch) (E : xE) (g : xG) (a : xA) {res : Int32} (hf : f_X3_answeredValues g a = some res) : xM l E yX3_answeredValues cX3_answeredValues 3 (some .int) 2 42 [.ref (E.2.1 13)] (wX E g a) (xQi E res (wX E g a)) := by
  unfold f_X3_answeredValues at hf
  refine xM_of (by decide) (Nat.le_of_ble_eq_true rfl) ?_
  intro p e s m below meth c A hx hb hr hml hts hown hlocks hA hD hP hK hN hS ls hl
  have hw : ∀ w ∈ BW, w.before _ s = true := fun w h => hts w (List.mem_cons_of_mem _ h)
  have C0 : xCtx E p m c cX3_answeredValues 3 s _ RX3 A yX3_answeredValues cX3_answeredValues 3 (some .int) := ⟨hx, hb, hml, hown, hts, hA, hK, hN⟩
  have hl : lv_has ls 3 [(0, .ref (E.2.1 13))] := hl
  have B4 : ∀ (n : Nat) (x1 : Int32) (x2 : Int32) (H : Heap) (locs : List Loc) (ls : Array Slot), va_P E.1 vwCl (wX E g a) H → va_S A s.heap H locs → lv_has ls 3 [(0, .ref (E.2.1 13)), (1, .int x1), (2, .int x2)] → f_X3_answeredValues_4 g a n x1 x2 = some res → W p l e ({ frames := 2, cells := 0, slots := 0, locals := 42 }) s m ([.ref (E.2.1 13)] : List Value).toArray below meth c H locs 0 0 (MQ below ((xQi E res (wX E g a)) A) ([.ref (E.2.1 13)] : List Value).toArray s 0 0 A) (F0 m 4 ls []) := by
    intro n
    induction n with
    | zero => intro x1 x2 H locs ls hP hS hl hf; exact absurd (show (none : Option (Int32)) = some res from hf) (by intro h; cases h)
    | succ n ih =>
      intro x1 x2 H locs ls hP hS hl hf
      replace hf := (e_X3_answeredValues_4 g a n x1 x2).symm.trans hf
      refine lv_iload_n hx hb dX3_answeredValues_4 rfl (lv_at hl 2 rfl) ?_
      refine lv_aload_n hx hb dX3_answeredValues_5 rfl (lv_at hl 0 rfl) ?_
      refine va_get (C := RX3) (T := TX3) (N := 5) hx hb hw bfX30 hown hK hP 13 (gx_13 E g a) rfl 0 (by decide) (hw _ bw258) (fun _ h9 => h9) rfl dX3_answeredValues_6 ?_
      refine va_get (C := RX4) (T := TX4) (N := 3) hx hb hw bfX40 hown hK hP 1 (gx_1 E g a) rfl 0 (by decide) (hw _ bw294) (fun _ h9 => h9) rfl dX3_answeredValues_9 ?_
      refine lv_icmp_ge (tgt := 34) hx hb dX3_answeredValues_12 (by decide) (fun c1 => ?_) (fun c1 => ?_)
      · replace hf := (if_pos c1).symm.trans hf
        refine lv_iload_n hx hb dX3_answeredValues_34 rfl (lv_at hl 1 rfl) ?_
        refine xci (xRunS (rest := []) (As := [.int x1]) (k := 1) C0 (c_J6_bitCount_0f7a4 l E g a x1) bw355 bw417 bw362 bw361 hd_J6_bitCount_0f7a4 ⟨Nat.le_of_ble_eq_true rfl, Nat.le_of_ble_eq_true rfl⟩ hP (wX_D hD) hS rfl hl.1 rfl (Nat.le_of_ble_eq_true rfl) dX3_answeredValues_35 ⟨Nat.zero_le _, Nat.zero_le _⟩) hS (fun H locs hP hS => ?_)
        exact xi_retS (fr := (fun r => r)) (fw := (fun r => wX E g a)) hx hb hr hlocks (Option.some.inj hf) hP hS dX3_answeredValues_38
      · replace hf := (if_neg c1).symm.trans hf
        refine lv_iload_n hx hb dX3_answeredValues_15 rfl (lv_at hl 1 rfl) ?_
        refine lv_iconst (v := 1) hx hb dX3_answeredValues_16 (by decide) ?_
        refine lv_aload_n hx hb dX3_answeredValues_17 rfl (lv_at hl 0 rfl) ?_
        refine va_get (C := RX3) (T := TX3) (N := 5) hx hb hw bfX30 hown hK hP 13 (gx_13 E g a) rfl 4 (by decide) (hw _ bw267) (fun _ h9 => h9) rfl dX3_answeredValues_18 ?_
        refine lv_iload_n hx hb dX3_answeredValues_21 rfl (lv_at hl 2 rfl) ?_
        refine xci (xRunV (rest := [.int 1, .int x1]) (As := [.int x2]) (C := RX5) (k := 1) C0 (c_X5_answerAt l E 6 (by decide) g a x2) bw289 bw416 bw44 bw292 bw293 hd_X5_answerAt ⟨Nat.le_of_ble_eq_true rfl, Nat.le_of_ble_eq_true rfl⟩ hP (wX_D hD) hS (va_recv hK hP (ci := 5) rfl (gx_46 E g a)) rfl hl.1 rfl (Nat.le_of_ble_eq_true rfl) dX3_answeredValues_22 ⟨Nat.zero_le _, Nat.zero_le _⟩) hS (fun H locs hP hS => ?_)
        refine lv_ishl hx hb dX3_answeredValues_25 ?_
        refine lv_ior hx hb dX3_answeredValues_26 ?_
        refine lv_istore_n (lv' := [(1, .int (x1 ||| ((1 : Int32) <<< ((t_X5_answerAt 6 g a x2) &&& 31)))), (0, .ref (E.2.1 13)), (2, .int x2)]) hx hb dX3_answeredValues_27 rfl hl (by decide) rfl (fun ls hl => ?_)
        refine lv_iinc (v := (x2 + 1)) (lv' := [(2, .int (x2 + 1)), (1, .int (x1 ||| ((1 : Int32) <<< ((t_X5_answerAt 6 g a x2) &&& 31)))), (0, .ref (E.2.1 13))]) hx hb dX3_answeredValues_28 hl (k := 2) rfl rfl (by decide) rfl (fun ls hl => ?_)
        refine lv_goto (tgt := 4) hx hb dX3_answeredValues_31 (by decide) ?_
        exact ih (x1 ||| ((1 : Int32) <<< ((t_X5_answerAt 6 g a x2) &&& 31))) (x2 + 1) _ _ _ hP hS (lv_sub hl [2, 1, 0] rfl) hf
  refine lv_iconst (v := 0) hx hb dX3_answeredValues_0 (by decide) ?_
  refine lv_istore_n (lv' := [(1, .int 0), (0, .ref (E.2.1 13))]) hx hb dX3_answeredValues_1 rfl hl (by decide) rfl (fun ls hl => ?_)
  refine lv_iconst (v := 0) hx hb dX3_answeredValues_2 (by decide) ?_
  refine lv_istore_n (lv' := [(2, .int 0), (1, .int 0), (0, .ref (E.2.1 13))]) hx hb dX3_answeredValues_3 rfl hl (by decide) rfl (fun ls hl => ?_)
  exact B4 fu 0 0 _ _ _ hP hS (lv_sub hl [2, 1, 0] rfl) hf
def f_X3_fewestEndValues_10 : Nat → xG → xA → Int32 → Int32 → Option (Int32 × xG × xA)
  | 0, _, _, _, _ => none
  | n + 1, g, a, x1, x2 => (if (t_X4_power g a (g 0)) ≤ x2 then some (x1, g, a) else Option.bind (f_X5_becomeUnary 6 g a x2) (fun u2 => Option.bind (f_X3_triedKeepsAll u2.1 u2.2) (fun u4 => (if u4.1 = 0 then f_X3_fewestEndValues_10 n u4.2.1 u4.2.2 x1 (x2 + 1) else Option.bind (f_X3_answeredValues u4.2.1 u4.2.2) (fun u7 => f_X3_fewestEndValues_10 n u4.2.1 u4.2.2 (if u7 < x1 then u7 else x1) (x2 + 1))))))
theorem e_X3_fewestEndValues_10 (n : Nat) (g : xG) (a : xA) (x1 : Int32) (x2 : Int32) : f_X3_fewestEndValues_10 (n + 1) g a x1 x2 = (if (t_X4_power g a (g 0)) ≤ x2 then some (x1, g, a) else Option.bind (f_X5_becomeUnary 6 g a x2) (fun u2 => Option.bind (f_X3_triedKeepsAll u2.1 u2.2) (fun u4 => (if u4.1 = 0 then f_X3_fewestEndValues_10 n u4.2.1 u4.2.2 x1 (x2 + 1) else Option.bind (f_X3_answeredValues u4.2.1 u4.2.2) (fun u7 => f_X3_fewestEndValues_10 n u4.2.1 u4.2.2 (if u7 < x1 then u7 else x1) (x2 + 1)))))) := rfl
def f_X3_fewestEndValues (g : xG) (a : xA) : Option (Int32 × xG × xA) := f_X3_fewestEndValues_10 fu g a (g 0) 0
set_option maxRecDepth 100000 in
set_option maxHeartbeats 40000000 in
theorem c_X3_fewestEndValues (l : Launch) (E : xE) (g : xG) (a : xA) {res : Int32 × xG × xA} (hf : f_X3_fewestEndValues g a = some res) : xM l E yX3_fewestEndValues cX3_fewestEndValues 3 (some .int) 6 136 [.ref (E.2.1 13)] (wX E g a) (xQi E res.1 (wX E res.2.1 res.2.2)) := by
  unfold f_X3_fewestEndValues at hf
  refine xM_of (by decide) (Nat.le_of_ble_eq_true rfl) ?_
  intro p e s m below meth c A hx hb hr hml hts hown hlocks hA hD hP hK hN hS ls hl
  have hw : ∀ w ∈ BW, w.before _ s = true := fun w h => hts w (List.mem_cons_of_mem _ h)
  have C0 : xCtx E p m c cX3_fewestEndValues 3 s _ RX3 A yX3_fewestEndValues cX3_fewestEndValues 3 (some .int) := ⟨hx, hb, hml, hown, hts, hA, hK, hN⟩
  have hl : lv_has ls 3 [(0, .ref (E.2.1 13))] := hl
  have B10 : ∀ (n : Nat) (g : xG) (a : xA) (x1 : Int32) (x2 : Int32) (H : Heap) (locs : List Loc) (ls : Array Slot), va_P E.1 vwCl (wX E g a) H → va_S A s.heap H locs → lv_has ls 3 [(0, .ref (E.2.1 13)), (1, .int x1), (2, .int x2)] → f_X3_fewestEndValues_10 n g a x1 x2 = some res → W p l e ({ frames := 6, cells := 0, slots := 0, locals := 136 }) s m ([.ref (E.2.1 13)] : List Value).toArray below meth c H locs 0 0 (MQ below ((xQi E res.1 (wX E res.2.1 res.2.2)) A) ([.ref (E.2.1 13)] : List Value).toArray s 0 0 A) (F0 m 10 ls []) := by
    intro n
    induction n with
    | zero => intro g a x1 x2 H locs ls hP hS hl hf; exact absurd (show (none : Option (Int32 × xG × xA)) = some res from hf) (by intro h; cases h)
    | succ n ih =>
      intro g a x1 x2 H locs ls hP hS hl hf
      replace hf := (e_X3_fewestEndValues_10 n g a x1 x2).symm.trans hf
      refine lv_iload_n hx hb dX3_fewestEndValues_10 rfl (lv_at hl 2 rfl) ?_
      refine lv_aload_n hx hb dX3_fewestEndValues_11 rfl (lv_at hl 0 rfl) ?_
      refine va_get (C := RX3) (T := TX3) (N := 5) hx hb hw bfX30 hown hK hP 13 (gx_13 E g a) rfl 0 (by decide) (hw _ bw258) (fun _ h9 => h9) rfl dX3_fewestEndValues_12 ?_
      refine lv_aload_n hx hb dX3_fewestEndValues_15 rfl (lv_at hl 0 rfl) ?_
      refine va_get (C := RX3) (T := TX3) (N := 5) hx hb hw bfX30 hown hK hP 13 (gx_13 E g a) rfl 0 (by decide) (hw _ bw258) (fun _ h9 => h9) rfl dX3_fewestEndValues_16 ?_
      refine va_get (C := RX4) (T := TX4) (N := 3) hx hb hw bfX40 hown hK hP 1 (gx_1 E g a) rfl 0 (by decide) (hw _ bw294) (fun _ h9 => h9) rfl dX3_fewestEndValues_19 ?_
      refine xci (xRunV (rest := [.int x2]) (As := [.int (g 0)]) (C := RX4) (k := 1) C0 (c_X4_power l E g a (g 0)) bw55 bw383 bw22 bw58 bw59 hd_X4_power ⟨Nat.le_of_ble_eq_true rfl, Nat.le_of_ble_eq_true rfl⟩ hP (wX_D hD) hS (va_recv hK hP (ci := 4) rfl (gx_1 E g a)) rfl hl.1 rfl (Nat.le_of_ble_eq_true rfl) dX3_fewestEndValues_22 ⟨Nat.zero_le _, Nat.zero_le _⟩) hS (fun H locs hP hS => ?_)
      refine lv_icmp_ge (tgt := 58) hx hb dX3_fewestEndValues_25 (by decide) (fun c1 => ?_) (fun c1 => ?_)
      · replace hf := (if_pos c1).symm.trans hf
        refine lv_iload_n hx hb dX3_fewestEndValues_58 rfl (lv_at hl 1 rfl) ?_
        exact xi_retS (fr := (fun r => r.1)) (fw := (fun r => wX E r.2.1 r.2.2)) hx hb hr hlocks (Option.some.inj hf) hP hS dX3_fewestEndValues_59
      · replace hf := (if_neg c1).symm.trans hf
        refine lv_aload_n hx hb dX3_fewestEndValues_28 rfl (lv_at hl 0 rfl) ?_
        refine va_get (C := RX3) (T := TX3) (N := 5) hx hb hw bfX30 hown hK hP 13 (gx_13 E g a) rfl 4 (by decide) (hw _ bw267) (fun _ h9 => h9) rfl dX3_fewestEndValues_29 ?_
        refine lv_iload_n hx hb dX3_fewestEndValues_32 rfl (lv_at hl 2 rfl) ?_
        obtain ⟨u2, e3, hf⟩ := bd_some hf
        refine xcv (xRunV (rest := []) (As := [.int x2]) (C := RX5) (k := 1) C0 (c_X5_becomeUnary l E 6 (by decide) g a x2 e3) bw410 bw411 bw44 bw412 bw413 hd_X5_becomeUnary ⟨Nat.le_of_ble_eq_true rfl, Nat.le_of_ble_eq_true rfl⟩ hP (wX_D hD) hS (va_recv hK hP (ci := 5) rfl (gx_46 E g a)) rfl hl.1 rfl (Nat.le_of_ble_eq_true rfl) dX3_fewestEndValues_33 ⟨Nat.zero_le _, Nat.zero_le _⟩) hS (fun H locs hP hS => ?_)
        refine lv_aload_n hx hb dX3_fewestEndValues_36 rfl (lv_at hl 0 rfl) ?_
        obtain ⟨u4, e5, hf⟩ := bd_some hf
        refine xci (xRunV (rest := []) (As := []) (C := RX3) (k := 0) C0 (c_X3_triedKeepsAll l E u2.1 u2.2 e5) bw277 bw300 bw303 bw301 bw302 hd_X3_triedKeepsAll ⟨Nat.le_of_ble_eq_true rfl, Nat.le_of_ble_eq_true rfl⟩ hP (wX_D hD) hS (va_recv hK hP (ci := 3) rfl (gx_13 E u2.1 u2.2)) rfl hl.1 rfl (Nat.le_of_ble_eq_true rfl) dX3_fewestEndValues_37 ⟨Nat.zero_le _, Nat.zero_le _⟩) hS (fun H locs hP hS => ?_)
        refine lv_if_eq (tgt := 52) hx hb dX3_fewestEndValues_40 (by decide) (fun c6 => ?_) (fun c6 => ?_)
        · replace hf := (if_pos c6).symm.trans hf
          refine lv_iinc (v := (x2 + 1)) (lv' := [(2, .int (x2 + 1)), (0, .ref (E.2.1 13)), (1, .int x1)]) hx hb dX3_fewestEndValues_52 hl (k := 2) rfl rfl (by decide) rfl (fun ls hl => ?_)
          refine lv_goto (tgt := 10) hx hb dX3_fewestEndValues_55 (by decide) ?_
          exact ih u4.2.1 u4.2.2 x1 (x2 + 1) _ _ _ hP hS (lv_sub hl [1, 2, 0] rfl) hf
        · replace hf := (if_neg c6).symm.trans hf
          refine lv_iload_n hx hb dX3_fewestEndValues_43 rfl (lv_at hl 1 rfl) ?_
          refine lv_aload_n hx hb dX3_fewestEndValues_44 rfl (lv_at hl 0 rfl) ?_
          obtain ⟨u7, e8, hf⟩ := bd_some hf
          refine xci (xRunV (rest := [.int x1]) (As := []) (C := RX3) (k := 0) C0 (c_X3_answeredValues l E u4.2.1 u4.2.2 e8) bw415 bw419 bw303 bw420 bw421 hd_X3_answeredValues ⟨Nat.le_of_ble_eq_true rfl, Nat.le_of_ble_eq_true rfl⟩ hP (wX_D hD) hS (va_recv hK hP (ci := 3) rfl (gx_13 E u4.2.1 u4.2.2)) rfl hl.1 rfl (Nat.le_of_ble_eq_true rfl) dX3_fewestEndValues_45 ⟨Nat.zero_le _, Nat.zero_le _⟩) hS (fun H locs hP hS => ?_)
          refine va_mmin hx hb (hml.trans hl.1.symm) hown (hw _ bw418) (hw _ bw123) (hw _ bw124) (hw _ bw125) (Nat.le_of_ble_eq_true rfl) (Nat.le_of_ble_eq_true rfl) (Nat.zero_le _) (Nat.zero_le _) dX3_fewestEndValues_48 ?_
          refine lv_istore_n (lv' := [(1, .int (if u7 < x1 then u7 else x1)), (0, .ref (E.2.1 13)), (2, .int x2)]) hx hb dX3_fewestEndValues_51 rfl hl (by decide) rfl (fun ls hl => ?_)
          refine lv_iinc (v := (x2 + 1)) (lv' := [(2, .int (x2 + 1)), (1, .int (if u7 < x1 then u7 else x1)), (0, .ref (E.2.1 13))]) hx hb dX3_fewestEndValues_52 hl (k := 2) rfl rfl (by decide) rfl (fun ls hl => ?_)
          refine lv_goto (tgt := 10) hx hb dX3_fewestEndValues_55 (by decide) ?_
          exact ih u4.2.1 u4.2.2 (if u7 < x1 then u7 else x1) (x2 + 1) _ _ _ hP hS (lv_sub hl [2, 1, 0] rfl) hf
  refine lv_aload_n hx hb dX3_fewestEndValues_0 rfl (lv_at hl 0 rfl) ?_
  refine va_get (C := RX3) (T := TX3) (N := 5) hx hb hw bfX30 hown hK hP 13 (gx_13 E g a) rfl 0 (by decide) (hw _ bw258) (fun _ h9 => h9) rfl dX3_fewestEndValues_1 ?_
  refine va_get (C := RX4) (T := TX4) (N := 3) hx hb hw bfX40 hown hK hP 1 (gx_1 E g a) rfl 0 (by decide) (hw _ bw294) (fun _ h9 => h9) rfl dX3_fewestEndValues_4 ?_
  refine lv_istore_n (lv' := [(1, .int (g 0)), (0, .ref (E.2.1 13))]) hx hb dX3_fewestEndValues_7 rfl hl (by decide) rfl (fun ls hl => ?_)
  refine lv_iconst (v := 0) hx hb dX3_fewestEndValues_8 (by decide) ?_
  refine lv_istore_n (lv' := [(2, .int 0), (1, .int (g 0)), (0, .ref (E.2.1 13))]) hx hb dX3_fewestEndValues_9 rfl hl (by decide) rfl (fun ls hl => ?_)
  exact B10 fu g a (g 0) 0 _ _ _ hP hS (lv_sub hl [2, 1, 0] rfl) hf
def f_X3_columnsOf_5 (g : xG) (a : xA) : Nat → Int32 → Int32 → Int32 → Option (Int32)
  | 0, _, _, _ => none
  | n + 1, x1, x2, x3 => (if x3 < 0 then some x2 else (if (isInF x3 x1) = 0 then f_X3_columnsOf_5 g a n x1 x2 (x3 + (-1)) else f_X3_columnsOf_5 g a n x1 ((x2 * (g 0)) + (t_X4_spread g a x3)) (x3 + (-1))))
theorem e_X3_columnsOf_5 (g : xG) (a : xA) (n : Nat) (x1 : Int32) (x2 : Int32) (x3 : Int32) : f_X3_columnsOf_5 g a (n + 1) x1 x2 x3 = (if x3 < 0 then some x2 else (if (isInF x3 x1) = 0 then f_X3_columnsOf_5 g a n x1 x2 (x3 + (-1)) else f_X3_columnsOf_5 g a n x1 ((x2 * (g 0)) + (t_X4_spread g a x3)) (x3 + (-1)))) := rfl
def f_X3_columnsOf (g : xG) (a : xA) (v1 : Int32) : Option (Int32) := f_X3_columnsOf_5 g a fu v1 0 26
set_option maxRecDepth 100000 in
set_option maxHeartbeats 40000000 in
theorem c_X3_columnsOf (l : Launch) (E : xE) (g : xG) (a : xA) (v1 : Int32) {res : Int32} (hf : f_X3_columnsOf g a v1 = some res) : xM l E yX3_columnsOf cX3_columnsOf 4 (some .int) 2 42 [.ref (E.2.1 13), .int v1] (wX E g a) (xQi E res (wX E g a)) := by
  unfold f_X3_columnsOf at hf
  refine xM_of (by decide) (Nat.le_of_ble_eq_true rfl) ?_
  intro p e s m below meth c A hx hb hr hml hts hown hlocks hA hD hP hK hN hS ls hl
  have hw : ∀ w ∈ BW, w.before _ s = true := fun w h => hts w (List.mem_cons_of_mem _ h)
  have C0 : xCtx E p m c cX3_columnsOf 4 s _ RX3 A yX3_columnsOf cX3_columnsOf 4 (some .int) := ⟨hx, hb, hml, hown, hts, hA, hK, hN⟩
  have hl : lv_has ls 4 [(0, .ref (E.2.1 13)), (1, .int v1)] := hl
  have B5 : ∀ (n : Nat) (x1 : Int32) (x2 : Int32) (x3 : Int32) (H : Heap) (locs : List Loc) (ls : Array Slot), va_P E.1 vwCl (wX E g a) H → va_S A s.heap H locs → lv_has ls 4 [(0, .ref (E.2.1 13)), (1, .int x1), (2, .int x2), (3, .int x3)] → f_X3_columnsOf_5 g a n x1 x2 x3 = some res → W p l e ({ frames := 2, cells := 0, slots := 0, locals := 42 }) s m ([.ref (E.2.1 13), .int v1] : List Value).toArray below meth c H locs 0 0 (MQ below ((xQi E res (wX E g a)) A) ([.ref (E.2.1 13), .int v1] : List Value).toArray s 0 0 A) (F0 m 5 ls []) := by
    intro n
    induction n with
    | zero => intro x1 x2 x3 H locs ls hP hS hl hf; exact absurd (show (none : Option (Int32)) = some res from hf) (by intro h; cases h)
    | succ n ih =>
      intro x1 x2 x3 H locs ls hP hS hl hf
      replace hf := (e_X3_columnsOf_5 g a n x1 x2 x3).symm.trans hf
      refine lv_iload_n hx hb dX3_columnsOf_5 rfl (lv_at hl 3 rfl) ?_
      refine lv_if_lt (tgt := 42) hx hb dX3_columnsOf_6 (by decide) (fun c1 => ?_) (fun c1 => ?_)
      · replace hf := (if_pos c1).symm.trans hf
        refine lv_iload_n hx hb dX3_columnsOf_42 rfl (lv_at hl 2 rfl) ?_
        exact xi_retS (fr := (fun r => r)) (fw := (fun r => wX E g a)) hx hb hr hlocks (Option.some.inj hf) hP hS dX3_columnsOf_43
      · replace hf := (if_neg c1).symm.trans hf
        refine lv_iload_n hx hb dX3_columnsOf_9 rfl (lv_at hl 3 rfl) ?_
        refine lv_iload_n hx hb dX3_columnsOf_10 rfl (lv_at hl 1 rfl) ?_
        refine xci (xRunN (rest := []) (As := [.int x3, .int x1]) (k := 2) C0 (c_isIn l E (wX E g a) x3 x1) bw8 nw10 bw13 bw18 hd_X11_isIn ⟨Nat.le_of_ble_eq_true rfl, Nat.le_of_ble_eq_true rfl⟩ hP (wX_D hD) hS rfl hl.1 rfl (Nat.le_of_ble_eq_true rfl) dX3_columnsOf_11 ⟨Nat.zero_le _, Nat.zero_le _⟩) hS (fun H locs hP hS => ?_)
        refine lv_if_eq (tgt := 36) hx hb dX3_columnsOf_14 (by decide) (fun c2 => ?_) (fun c2 => ?_)
        · replace hf := (if_pos c2).symm.trans hf
          refine lv_iinc (v := (x3 + (-1))) (lv' := [(3, .int (x3 + (-1))), (0, .ref (E.2.1 13)), (1, .int x1), (2, .int x2)]) hx hb dX3_columnsOf_36 hl (k := 3) rfl rfl (by decide) rfl (fun ls hl => ?_)
          refine lv_goto (tgt := 5) hx hb dX3_columnsOf_39 (by decide) ?_
          exact ih x1 x2 (x3 + (-1)) _ _ _ hP hS (lv_sub hl [1, 2, 3, 0] rfl) hf
        · replace hf := (if_neg c2).symm.trans hf
          refine lv_iload_n hx hb dX3_columnsOf_17 rfl (lv_at hl 2 rfl) ?_
          refine lv_aload_n hx hb dX3_columnsOf_18 rfl (lv_at hl 0 rfl) ?_
          refine va_get (C := RX3) (T := TX3) (N := 5) hx hb hw bfX30 hown hK hP 13 (gx_13 E g a) rfl 0 (by decide) (hw _ bw258) (fun _ h9 => h9) rfl dX3_columnsOf_19 ?_
          refine va_get (C := RX4) (T := TX4) (N := 3) hx hb hw bfX40 hown hK hP 1 (gx_1 E g a) rfl 0 (by decide) (hw _ bw294) (fun _ h9 => h9) rfl dX3_columnsOf_22 ?_
          refine lv_imul hx hb dX3_columnsOf_25 ?_
          refine lv_aload_n hx hb dX3_columnsOf_26 rfl (lv_at hl 0 rfl) ?_
          refine va_get (C := RX3) (T := TX3) (N := 5) hx hb hw bfX30 hown hK hP 13 (gx_13 E g a) rfl 0 (by decide) (hw _ bw258) (fun _ h9 => h9) rfl dX3_columnsOf_27 ?_
          refine lv_iload_n hx hb dX3_columnsOf_30 rfl (lv_at hl 3 rfl) ?_
          refine xci (xRunV (rest := [.int (x2 * (g 0))]) (As := [.int x3]) (C := RX4) (k := 1) C0 (c_X4_spread l E g a x3) bw10 bw424 bw22 bw20 bw21 hd_X4_spread ⟨Nat.le_of_ble_eq_true rfl, Nat.le_of_ble_eq_true rfl⟩ hP (wX_D hD) hS (va_recv hK hP (ci := 4) rfl (gx_1 E g a)) rfl hl.1 rfl (Nat.le_of_ble_eq_true rfl) dX3_columnsOf_31 ⟨Nat.zero_le _, Nat.zero_le _⟩) hS (fun H locs hP hS => ?_)
          refine lv_iadd hx hb dX3_columnsOf_34 ?_
          refine lv_istore_n (lv' := [(2, .int ((x2 * (g 0)) + (t_X4_spread g a x3))), (0, .ref (E.2.1 13)), (1, .int x1), (3, .int x3)]) hx hb dX3_columnsOf_35 rfl hl (by decide) rfl (fun ls hl => ?_)
          refine lv_iinc (v := (x3 + (-1))) (lv' := [(3, .int (x3 + (-1))), (2, .int ((x2 * (g 0)) + (t_X4_spread g a x3))), (0, .ref (E.2.1 13)), (1, .int x1)]) hx hb dX3_columnsOf_36 hl (k := 3) rfl rfl (by decide) rfl (fun ls hl => ?_)
          refine lv_goto (tgt := 5) hx hb dX3_columnsOf_39 (by decide) ?_
          exact ih x1 ((x2 * (g 0)) + (t_X4_spread g a x3)) (x3 + (-1)) _ _ _ hP hS (lv_sub hl [2, 3, 1, 0] rfl) hf
  refine lv_iconst (v := 0) hx hb dX3_columnsOf_0 (by decide) ?_
  refine lv_istore_n (lv' := [(2, .int 0), (0, .ref (E.2.1 13)), (1, .int v1)]) hx hb dX3_columnsOf_1 rfl hl (by decide) rfl (fun ls hl => ?_)
  refine lv_bipush (v := 26) hx hb dX3_columnsOf_2 (by decide) ?_
  refine lv_istore_n (lv' := [(3, .int 26), (2, .int 0), (0, .ref (E.2.1 13)), (1, .int v1)]) hx hb dX3_columnsOf_4 rfl hl (by decide) rfl (fun ls hl => ?_)
  exact B5 fu v1 0 26 _ _ _ hP hS (lv_sub hl [2, 3, 1, 0] rfl) hf
def f_X3_leastAround_80 (K57 : xG → xA → Int32 → Int32 → Int32 → Int32 → Option (Int32 × xG × xA)) : Nat → xG → xA → Int32 → Int32 → Int32 → Int32 → Int32 → Option (Int32 × xG × xA)
  | 0, _, _, _, _, _, _, _ => none
  | n + 1, g, a, x3, x4, x5, x6, x7 => (if x3 ≤ x7 then Option.bind (f_X8_find g a) (fun u10 => (if u10.1 = 0 then K57 g u10.2 x3 x4 x5 (x6 + 1) else K57 g u10.2 x3 x4 (x5 ||| ((1 : Int32) <<< (x6 &&& 31))) (x6 + 1))) else f_X3_leastAround_80 K57 n g (t_X8_allowOnly g a (t_X4_onPlace g a x4 x7) (t_X4_digit g a x6 x7)) x3 x4 x5 x6 (x7 + 1))
theorem e_X3_leastAround_80 (K57 : xG → xA → Int32 → Int32 → Int32 → Int32 → Option (Int32 × xG × xA)) (n : Nat) (g : xG) (a : xA) (x3 : Int32) (x4 : Int32) (x5 : Int32) (x6 : Int32) (x7 : Int32) : f_X3_leastAround_80 K57 (n + 1) g a x3 x4 x5 x6 x7 = (if x3 ≤ x7 then Option.bind (f_X8_find g a) (fun u10 => (if u10.1 = 0 then K57 g u10.2 x3 x4 x5 (x6 + 1) else K57 g u10.2 x3 x4 (x5 ||| ((1 : Int32) <<< (x6 &&& 31))) (x6 + 1))) else f_X3_leastAround_80 K57 n g (t_X8_allowOnly g a (t_X4_onPlace g a x4 x7) (t_X4_digit g a x6 x7)) x3 x4 x5 x6 (x7 + 1)) := rfl
def f_X3_leastAround_57 : Nat → xG → xA → Int32 → Int32 → Int32 → Int32 → Option (Int32 × xG × xA)
  | 0, _, _, _, _, _, _ => none
  | n + 1, g, a, x3, x4, x5, x6 => (if (t_X4_power g a x3) ≤ x6 then some (x5, g, a) else Option.bind (f_X8_allowAll g a) (fun u7 => f_X3_leastAround_80 (f_X3_leastAround_57 n) fu g u7 x3 x4 x5 x6 0))
theorem e_X3_leastAround_57 (n : Nat) (g : xG) (a : xA) (x3 : Int32) (x4 : Int32) (x5 : Int32) (x6 : Int32) : f_X3_leastAround_57 (n + 1) g a x3 x4 x5 x6 = (if (t_X4_power g a x3) ≤ x6 then some (x5, g, a) else Option.bind (f_X8_allowAll g a) (fun u7 => f_X3_leastAround_80 (f_X3_leastAround_57 n) fu g u7 x3 x4 x5 x6 0)) := rfl
def f_X3_leastAround (g : xG) (a : xA) (v1 : Int32) : Option (Int32 × xG × xA) := (if 1 ≤ (t_J6_bitCount_0f7a4 g a (t_X10_tuplesOf g a v1)) then Option.bind (f_X3_columnsOf g a (t_X10_tuplesOf g a v1)) (fun u2 => Option.bind (f_X8_begin g a (t_J6_bitCount_0f7a4 g a (t_X10_tuplesOf g a v1)) v1) (fun u4 => f_X3_leastAround_57 fu u4.1 u4.2 (t_X10_placesOf g a v1) u2 0 0)) else some (0, g, a))
set_option maxRecDepth 100000 in
set_option maxHeartbeats 40000000 in
theorem c_X3_leastAround (l : Launch) (E : xE) (g : xG) (a : xA) (v1 : Int32) {res : Int32 × xG × xA} (hf : f_X3_leastAround g a v1 = some res) : xM l E yX3_leastAround cX3_leastAround 8 (some .int) 36 828 [.ref (E.2.1 13), .int v1] (wX E g a) (xQi E res.1 (wX E res.2.1 res.2.2)) := by
  unfold f_X3_leastAround at hf
  refine xM_of (by decide) (Nat.le_of_ble_eq_true rfl) ?_
  intro p e s m below meth c A hx hb hr hml hts hown hlocks hA hD hP hK hN hS ls hl
  have hw : ∀ w ∈ BW, w.before _ s = true := fun w h => hts w (List.mem_cons_of_mem _ h)
  have C0 : xCtx E p m c cX3_leastAround 8 s _ RX3 A yX3_leastAround cX3_leastAround 8 (some .int) := ⟨hx, hb, hml, hown, hts, hA, hK, hN⟩
  have hl : lv_has ls 8 [(0, .ref (E.2.1 13)), (1, .int v1)] := hl
  have B80 : ∀ (K57 : xG → xA → Int32 → Int32 → Int32 → Int32 → Option (Int32 × xG × xA)) (hK57 : ∀ (g : xG) (a : xA) (x3 : Int32) (x4 : Int32) (x5 : Int32) (x6 : Int32) (H : Heap) (locs : List Loc) (ls : Array Slot), va_P E.1 vwCl (wX E g a) H → va_S A s.heap H locs → lv_has ls 8 [(0, .ref (E.2.1 13)), (3, .int x3), (4, .int x4), (5, .int x5), (6, .int x6)] → K57 g a x3 x4 x5 x6 = some res → W p l e ({ frames := 36, cells := 0, slots := 0, locals := 828 }) s m ([.ref (E.2.1 13), .int v1] : List Value).toArray below meth c H locs 0 0 (MQ below ((xQi E res.1 (wX E res.2.1 res.2.2)) A) ([.ref (E.2.1 13), .int v1] : List Value).toArray s 0 0 A) (F0 m 57 ls [])) (n : Nat) (g : xG) (a : xA) (x3 : Int32) (x4 : Int32) (x5 : Int32) (x6 : Int32) (x7 : Int32) (H : Heap) (locs : List Loc) (ls : Array Slot), va_P E.1 vwCl (wX E g a) H → va_S A s.heap H locs → lv_has ls 8 [(0, .ref (E.2.1 13)), (3, .int x3), (4, .int x4), (5, .int x5), (6, .int x6), (7, .int x7)] → f_X3_leastAround_80 K57 n g a x3 x4 x5 x6 x7 = some res → W p l e ({ frames := 36, cells := 0, slots := 0, locals := 828 }) s m ([.ref (E.2.1 13), .int v1] : List Value).toArray below meth c H locs 0 0 (MQ below ((xQi E res.1 (wX E res.2.1 res.2.2)) A) ([.ref (E.2.1 13), .int v1] : List Value).toArray s 0 0 A) (F0 m 80 ls []) := by
    intro K57 hK57 n
    induction n with
    | zero => intro g a x3 x4 x5 x6 x7 H locs ls hP hS hl hf; exact absurd (show (none : Option (Int32 × xG × xA)) = some res from hf) (by intro h; cases h)
    | succ n ih =>
      intro g a x3 x4 x5 x6 x7 H locs ls hP hS hl hf
      replace hf := (e_X3_leastAround_80 K57 n g a x3 x4 x5 x6 x7).symm.trans hf
      refine lv_iload hx hb dX3_leastAround_80 (lv_at hl 5 rfl) ?_
      refine lv_iload_n hx hb dX3_leastAround_82 rfl (lv_at hl 1 rfl) ?_
      refine lv_icmp_ge (tgt := 121) hx hb dX3_leastAround_83 (by decide) (fun c9 => ?_) (fun c9 => ?_)
      · replace hf := (if_pos c9).symm.trans hf
        refine lv_aload_n hx hb dX3_leastAround_121 rfl (lv_at hl 0 rfl) ?_
        refine va_get (C := RX3) (T := TX3) (N := 5) hx hb hw bfX30 hown hK hP 13 (gx_13 E g a) rfl 3 (by decide) (hw _ bw264) (fun _ h9 => h9) rfl dX3_leastAround_122 ?_
        obtain ⟨u10, e11, hf⟩ := bd_some hf
        refine xci (xRunV (rest := []) (As := []) (C := RX8) (k := 0) C0 (c_X8_find l E g a e11) bw378 bw387 bw263 bw388 bw389 hd_X8_find ⟨Nat.le_of_ble_eq_true rfl, Nat.le_of_ble_eq_true rfl⟩ hP (wX_D hD) hS (va_recv hK hP (ci := 8) rfl (gx_14 E g a)) rfl hl.1 rfl (Nat.le_of_ble_eq_true rfl) dX3_leastAround_125 ⟨Nat.zero_le _, Nat.zero_le _⟩) hS (fun H locs hP hS => ?_)
        refine lv_if_eq (tgt := 140) hx hb dX3_leastAround_128 (by decide) (fun c12 => ?_) (fun c12 => ?_)
        · replace hf := (if_pos c12).symm.trans hf
          refine lv_iinc (v := (x6 + 1)) (lv' := [(6, .int (x6 + 1)), (0, .ref (E.2.1 13)), (3, .int x3), (4, .int x4), (5, .int x5), (7, .int x7)]) hx hb dX3_leastAround_140 hl (k := 4) rfl rfl (by decide) rfl (fun ls hl => ?_)
          refine lv_goto (tgt := 57) hx hb dX3_leastAround_143 (by decide) ?_
          exact hK57 g u10.2 x3 x4 x5 (x6 + 1) _ _ _ hP hS (lv_sub hl [1, 2, 3, 4, 0] rfl) hf
        · replace hf := (if_neg c12).symm.trans hf
          refine lv_iload hx hb dX3_leastAround_131 (lv_at hl 3 rfl) ?_
          refine lv_iconst (v := 1) hx hb dX3_leastAround_133 (by decide) ?_
          refine lv_iload hx hb dX3_leastAround_134 (lv_at hl 4 rfl) ?_
          refine lv_ishl hx hb dX3_leastAround_136 ?_
          refine lv_ior hx hb dX3_leastAround_137 ?_
          refine lv_istore (lv' := [(5, .int (x5 ||| ((1 : Int32) <<< (x6 &&& 31)))), (0, .ref (E.2.1 13)), (3, .int x3), (4, .int x4), (6, .int x6), (7, .int x7)]) hx hb dX3_leastAround_138 hl (by decide) rfl (fun ls hl => ?_)
          refine lv_iinc (v := (x6 + 1)) (lv' := [(6, .int (x6 + 1)), (5, .int (x5 ||| ((1 : Int32) <<< (x6 &&& 31)))), (0, .ref (E.2.1 13)), (3, .int x3), (4, .int x4), (7, .int x7)]) hx hb dX3_leastAround_140 hl (k := 4) rfl rfl (by decide) rfl (fun ls hl => ?_)
          refine lv_goto (tgt := 57) hx hb dX3_leastAround_143 (by decide) ?_
          exact hK57 g u10.2 x3 x4 (x5 ||| ((1 : Int32) <<< (x6 &&& 31))) (x6 + 1) _ _ _ hP hS (lv_sub hl [2, 3, 4, 1, 0] rfl) hf
      · replace hf := (if_neg c9).symm.trans hf
        refine lv_aload_n hx hb dX3_leastAround_86 rfl (lv_at hl 0 rfl) ?_
        refine va_get (C := RX3) (T := TX3) (N := 5) hx hb hw bfX30 hown hK hP 13 (gx_13 E g a) rfl 3 (by decide) (hw _ bw264) (fun _ h9 => h9) rfl dX3_leastAround_87 ?_
        refine lv_aload_n hx hb dX3_leastAround_90 rfl (lv_at hl 0 rfl) ?_
        refine va_get (C := RX3) (T := TX3) (N := 5) hx hb hw bfX30 hown hK hP 13 (gx_13 E g a) rfl 0 (by decide) (hw _ bw258) (fun _ h9 => h9) rfl dX3_leastAround_91 ?_
        refine lv_iload hx hb dX3_leastAround_94 (lv_at hl 2 rfl) ?_
        refine lv_iload hx hb dX3_leastAround_96 (lv_at hl 5 rfl) ?_
        refine xci (xRunV (rest := [.ref (E.2.1 14)]) (As := [.int x4, .int x7]) (C := RX4) (k := 2) C0 (c_X4_onPlace l E g a x4 x7) bw33 bw429 bw22 bw39 bw40 hd_X4_onPlace ⟨Nat.le_of_ble_eq_true rfl, Nat.le_of_ble_eq_true rfl⟩ hP (wX_D hD) hS (va_recv hK hP (ci := 4) rfl (gx_1 E g a)) rfl hl.1 rfl (Nat.le_of_ble_eq_true rfl) dX3_leastAround_98 ⟨Nat.zero_le _, Nat.zero_le _⟩) hS (fun H locs hP hS => ?_)
        refine lv_aload_n hx hb dX3_leastAround_101 rfl (lv_at hl 0 rfl) ?_
        refine va_get (C := RX3) (T := TX3) (N := 5) hx hb hw bfX30 hown hK hP 13 (gx_13 E g a) rfl 0 (by decide) (hw _ bw258) (fun _ h9 => h9) rfl dX3_leastAround_102 ?_
        refine lv_iload hx hb dX3_leastAround_105 (lv_at hl 4 rfl) ?_
        refine lv_iload hx hb dX3_leastAround_107 (lv_at hl 5 rfl) ?_
        refine xci (xRunV (rest := [.int (t_X4_onPlace g a x4 x7), .ref (E.2.1 14)]) (As := [.int x6, .int x7]) (C := RX4) (k := 2) C0 (c_X4_digit l E g a x6 x7) bw174 bw309 bw22 bw199 bw200 hd_X4_digit ⟨Nat.le_of_ble_eq_true rfl, Nat.le_of_ble_eq_true rfl⟩ hP (wX_D hD) hS (va_recv hK hP (ci := 4) rfl (gx_1 E g a)) rfl hl.1 rfl (Nat.le_of_ble_eq_true rfl) dX3_leastAround_109 ⟨Nat.zero_le _, Nat.zero_le _⟩) hS (fun H locs hP hS => ?_)
        refine xcv (xRunV (rest := []) (As := [.int (t_X4_onPlace g a x4 x7), .int (t_X4_digit g a x6 x7)]) (C := RX8) (k := 2) C0 (c_X8_allowOnly l E g a (t_X4_onPlace g a x4 x7) (t_X4_digit g a x6 x7)) bw354 bw384 bw263 bw385 bw386 hd_X8_allowOnly ⟨Nat.le_of_ble_eq_true rfl, Nat.le_of_ble_eq_true rfl⟩ hP (wX_D hD) hS (va_recv hK hP (ci := 8) rfl (gx_14 E g a)) rfl hl.1 rfl (Nat.le_of_ble_eq_true rfl) dX3_leastAround_112 ⟨Nat.zero_le _, Nat.zero_le _⟩) hS (fun H locs hP hS => ?_)
        refine lv_iinc (v := (x7 + 1)) (lv' := [(7, .int (x7 + 1)), (0, .ref (E.2.1 13)), (3, .int x3), (4, .int x4), (5, .int x5), (6, .int x6)]) hx hb dX3_leastAround_115 hl (k := 5) rfl rfl (by decide) rfl (fun ls hl => ?_)
        refine lv_goto (tgt := 80) hx hb dX3_leastAround_118 (by decide) ?_
        exact ih g (t_X8_allowOnly g a (t_X4_onPlace g a x4 x7) (t_X4_digit g a x6 x7)) x3 x4 x5 x6 (x7 + 1) _ _ _ hP hS (lv_sub hl [1, 2, 3, 4, 5, 0] rfl) hf
  have B57 : ∀ (n : Nat) (g : xG) (a : xA) (x3 : Int32) (x4 : Int32) (x5 : Int32) (x6 : Int32) (H : Heap) (locs : List Loc) (ls : Array Slot), va_P E.1 vwCl (wX E g a) H → va_S A s.heap H locs → lv_has ls 8 [(0, .ref (E.2.1 13)), (3, .int x3), (4, .int x4), (5, .int x5), (6, .int x6)] → f_X3_leastAround_57 n g a x3 x4 x5 x6 = some res → W p l e ({ frames := 36, cells := 0, slots := 0, locals := 828 }) s m ([.ref (E.2.1 13), .int v1] : List Value).toArray below meth c H locs 0 0 (MQ below ((xQi E res.1 (wX E res.2.1 res.2.2)) A) ([.ref (E.2.1 13), .int v1] : List Value).toArray s 0 0 A) (F0 m 57 ls []) := by
    intro n
    induction n with
    | zero => intro g a x3 x4 x5 x6 H locs ls hP hS hl hf; exact absurd (show (none : Option (Int32 × xG × xA)) = some res from hf) (by intro h; cases h)
    | succ n ih =>
      intro g a x3 x4 x5 x6 H locs ls hP hS hl hf
      replace hf := (e_X3_leastAround_57 n g a x3 x4 x5 x6).symm.trans hf
      refine lv_iload hx hb dX3_leastAround_57 (lv_at hl 4 rfl) ?_
      refine lv_aload_n hx hb dX3_leastAround_59 rfl (lv_at hl 0 rfl) ?_
      refine va_get (C := RX3) (T := TX3) (N := 5) hx hb hw bfX30 hown hK hP 13 (gx_13 E g a) rfl 0 (by decide) (hw _ bw258) (fun _ h9 => h9) rfl dX3_leastAround_60 ?_
      refine lv_iload_n hx hb dX3_leastAround_63 rfl (lv_at hl 1 rfl) ?_
      refine xci (xRunV (rest := [.int x6]) (As := [.int x3]) (C := RX4) (k := 1) C0 (c_X4_power l E g a x3) bw55 bw383 bw22 bw58 bw59 hd_X4_power ⟨Nat.le_of_ble_eq_true rfl, Nat.le_of_ble_eq_true rfl⟩ hP (wX_D hD) hS (va_recv hK hP (ci := 4) rfl (gx_1 E g a)) rfl hl.1 rfl (Nat.le_of_ble_eq_true rfl) dX3_leastAround_64 ⟨Nat.zero_le _, Nat.zero_le _⟩) hS (fun H locs hP hS => ?_)
      refine lv_icmp_ge (tgt := 146) hx hb dX3_leastAround_67 (by decide) (fun c6 => ?_) (fun c6 => ?_)
      · replace hf := (if_pos c6).symm.trans hf
        refine lv_iload hx hb dX3_leastAround_146 (lv_at hl 3 rfl) ?_
        exact xi_retS (fr := (fun r => r.1)) (fw := (fun r => wX E r.2.1 r.2.2)) hx hb hr hlocks (Option.some.inj hf) hP hS dX3_leastAround_148
      · replace hf := (if_neg c6).symm.trans hf
        refine lv_aload_n hx hb dX3_leastAround_70 rfl (lv_at hl 0 rfl) ?_
        refine va_get (C := RX3) (T := TX3) (N := 5) hx hb hw bfX30 hown hK hP 13 (gx_13 E g a) rfl 3 (by decide) (hw _ bw264) (fun _ h9 => h9) rfl dX3_leastAround_71 ?_
        obtain ⟨u7, e8, hf⟩ := bd_some hf
        refine xcv (xRunV (rest := []) (As := []) (C := RX8) (k := 0) C0 (c_X8_allowAll l E g a e8) bw342 bw428 bw263 bw351 bw352 hd_X8_allowAll ⟨Nat.le_of_ble_eq_true rfl, Nat.le_of_ble_eq_true rfl⟩ hP (wX_D hD) hS (va_recv hK hP (ci := 8) rfl (gx_14 E g a)) rfl hl.1 rfl (Nat.le_of_ble_eq_true rfl) dX3_leastAround_74 ⟨Nat.zero_le _, Nat.zero_le _⟩) hS (fun H locs hP hS => ?_)
        refine lv_iconst (v := 0) hx hb dX3_leastAround_77 (by decide) ?_
        refine lv_istore (lv' := [(7, .int 0), (0, .ref (E.2.1 13)), (3, .int x3), (4, .int x4), (5, .int x5), (6, .int x6)]) hx hb dX3_leastAround_78 hl (by decide) rfl (fun ls hl => ?_)
        exact B80 (f_X3_leastAround_57 n) ih fu g u7 x3 x4 x5 x6 0 _ _ _ hP hS (lv_sub hl [1, 2, 3, 4, 5, 0] rfl) hf
  refine lv_aload_n hx hb dX3_leastAround_0 rfl (lv_at hl 0 rfl) ?_
  refine va_get (C := RX3) (T := TX3) (N := 5) hx hb hw bfX30 hown hK hP 13 (gx_13 E g a) rfl 1 (by decide) (hw _ bw259) (fun _ h9 => h9) rfl dX3_leastAround_1 ?_
  refine lv_iload_n hx hb dX3_leastAround_4 rfl (lv_at hl 1 rfl) ?_
  refine xci (xRunV (rest := []) (As := [.int v1]) (C := RX10) (k := 1) C0 (c_X10_tuplesOf l E g a v1) bw176 bw275 bw115 bw180 bw181 hd_X10_tuplesOf ⟨Nat.le_of_ble_eq_true rfl, Nat.le_of_ble_eq_true rfl⟩ hP (wX_D hD) hS (va_recv hK hP (ci := 10) rfl (gx_4 E g a)) rfl hl.1 rfl (Nat.le_of_ble_eq_true rfl) dX3_leastAround_5 ⟨Nat.zero_le _, Nat.zero_le _⟩) hS (fun H locs hP hS => ?_)
  refine xci (xRunS (rest := []) (As := [.int (t_X10_tuplesOf g a v1)]) (k := 1) C0 (c_J6_bitCount_0f7a4 l E g a (t_X10_tuplesOf g a v1)) bw355 bw417 bw362 bw361 hd_J6_bitCount_0f7a4 ⟨Nat.le_of_ble_eq_true rfl, Nat.le_of_ble_eq_true rfl⟩ hP (wX_D hD) hS rfl hl.1 rfl (Nat.le_of_ble_eq_true rfl) dX3_leastAround_8 ⟨Nat.zero_le _, Nat.zero_le _⟩) hS (fun H locs hP hS => ?_)
  refine lv_istore_n (lv' := [(2, .int (t_J6_bitCount_0f7a4 g a (t_X10_tuplesOf g a v1))), (0, .ref (E.2.1 13)), (1, .int v1)]) hx hb dX3_leastAround_11 rfl hl (by decide) rfl (fun ls hl => ?_)
  refine lv_iload_n hx hb dX3_leastAround_12 rfl (lv_at hl 0 rfl) ?_
  refine lv_iconst (v := 1) hx hb dX3_leastAround_13 (by decide) ?_
  refine lv_icmp_ge (tgt := 19) hx hb dX3_leastAround_14 (by decide) (fun c1 => ?_) (fun c1 => ?_)
  · replace hf := (if_pos c1).symm.trans hf
    refine lv_aload_n hx hb dX3_leastAround_19 rfl (lv_at hl 1 rfl) ?_
    refine va_get (C := RX3) (T := TX3) (N := 5) hx hb hw bfX30 hown hK hP 13 (gx_13 E g a) rfl 1 (by decide) (hw _ bw259) (fun _ h9 => h9) rfl dX3_leastAround_20 ?_
    refine lv_iload_n hx hb dX3_leastAround_23 rfl (lv_at hl 2 rfl) ?_
    refine xci (xRunV (rest := []) (As := [.int v1]) (C := RX10) (k := 1) C0 (c_X10_placesOf l E g a v1) bw117 bw274 bw115 bw133 bw134 hd_X10_placesOf ⟨Nat.le_of_ble_eq_true rfl, Nat.le_of_ble_eq_true rfl⟩ hP (wX_D hD) hS (va_recv hK hP (ci := 10) rfl (gx_4 E g a)) rfl hl.1 rfl (Nat.le_of_ble_eq_true rfl) dX3_leastAround_24 ⟨Nat.zero_le _, Nat.zero_le _⟩) hS (fun H locs hP hS => ?_)
    refine lv_istore_n (lv' := [(3, .int (t_X10_placesOf g a v1)), (2, .int (t_J6_bitCount_0f7a4 g a (t_X10_tuplesOf g a v1))), (0, .ref (E.2.1 13)), (1, .int v1)]) hx hb dX3_leastAround_27 rfl hl (by decide) rfl (fun ls hl => ?_)
    refine lv_aload_n hx hb dX3_leastAround_28 rfl (lv_at hl 2 rfl) ?_
    refine lv_aload_n hx hb dX3_leastAround_29 rfl (lv_at hl 2 rfl) ?_
    refine va_get (C := RX3) (T := TX3) (N := 5) hx hb hw bfX30 hown hK hP 13 (gx_13 E g a) rfl 1 (by decide) (hw _ bw259) (fun _ h9 => h9) rfl dX3_leastAround_30 ?_
    refine lv_iload_n hx hb dX3_leastAround_33 rfl (lv_at hl 3 rfl) ?_
    refine xci (xRunV (rest := [.ref (E.2.1 13)]) (As := [.int v1]) (C := RX10) (k := 1) C0 (c_X10_tuplesOf l E g a v1) bw176 bw275 bw115 bw180 bw181 hd_X10_tuplesOf ⟨Nat.le_of_ble_eq_true rfl, Nat.le_of_ble_eq_true rfl⟩ hP (wX_D hD) hS (va_recv hK hP (ci := 10) rfl (gx_4 E g a)) rfl hl.1 rfl (Nat.le_of_ble_eq_true rfl) dX3_leastAround_34 ⟨Nat.zero_le _, Nat.zero_le _⟩) hS (fun H locs hP hS => ?_)
    obtain ⟨u2, e3, hf⟩ := bd_some hf
    refine xci (xRunV (rest := []) (As := [.int (t_X10_tuplesOf g a v1)]) (C := RX3) (k := 1) C0 (c_X3_columnsOf l E g a (t_X10_tuplesOf g a v1) e3) bw423 bw425 bw303 bw426 bw427 hd_X3_columnsOf ⟨Nat.le_of_ble_eq_true rfl, Nat.le_of_ble_eq_true rfl⟩ hP (wX_D hD) hS (va_recv hK hP (ci := 3) rfl (gx_13 E g a)) rfl hl.1 rfl (Nat.le_of_ble_eq_true rfl) dX3_leastAround_37 ⟨Nat.zero_le _, Nat.zero_le _⟩) hS (fun H locs hP hS => ?_)
    refine lv_istore (lv' := [(4, .int u2), (3, .int (t_X10_placesOf g a v1)), (2, .int (t_J6_bitCount_0f7a4 g a (t_X10_tuplesOf g a v1))), (0, .ref (E.2.1 13)), (1, .int v1)]) hx hb dX3_leastAround_40 hl (by decide) rfl (fun ls hl => ?_)
    refine lv_aload_n hx hb dX3_leastAround_42 rfl (lv_at hl 3 rfl) ?_
    refine va_get (C := RX3) (T := TX3) (N := 5) hx hb hw bfX30 hown hK hP 13 (gx_13 E g a) rfl 3 (by decide) (hw _ bw264) (fun _ h9 => h9) rfl dX3_leastAround_43 ?_
    refine lv_iload_n hx hb dX3_leastAround_46 rfl (lv_at hl 2 rfl) ?_
    refine lv_iload_n hx hb dX3_leastAround_47 rfl (lv_at hl 4 rfl) ?_
    obtain ⟨u4, e5, hf⟩ := bd_some hf
    refine xcv (xRunV (rest := []) (As := [.int (t_J6_bitCount_0f7a4 g a (t_X10_tuplesOf g a v1)), .int v1]) (C := RX8) (k := 2) C0 (c_X8_begin l E g a (t_J6_bitCount_0f7a4 g a (t_X10_tuplesOf g a v1)) v1 e5) bw353 bw380 bw263 bw381 bw382 hd_X8_begin ⟨Nat.le_of_ble_eq_true rfl, Nat.le_of_ble_eq_true rfl⟩ hP (wX_D hD) hS (va_recv hK hP (ci := 8) rfl (gx_14 E g a)) rfl hl.1 rfl (Nat.le_of_ble_eq_true rfl) dX3_leastAround_48 ⟨Nat.zero_le _, Nat.zero_le _⟩) hS (fun H locs hP hS => ?_)
    refine lv_iconst (v := 0) hx hb dX3_leastAround_51 (by decide) ?_
    refine lv_istore (lv' := [(5, .int 0), (4, .int u2), (3, .int (t_X10_placesOf g a v1)), (2, .int (t_J6_bitCount_0f7a4 g a (t_X10_tuplesOf g a v1))), (0, .ref (E.2.1 13)), (1, .int v1)]) hx hb dX3_leastAround_52 hl (by decide) rfl (fun ls hl => ?_)
    refine lv_iconst (v := 0) hx hb dX3_leastAround_54 (by decide) ?_
    refine lv_istore (lv' := [(6, .int 0), (5, .int 0), (4, .int u2), (3, .int (t_X10_placesOf g a v1)), (2, .int (t_J6_bitCount_0f7a4 g a (t_X10_tuplesOf g a v1))), (0, .ref (E.2.1 13)), (1, .int v1)]) hx hb dX3_leastAround_55 hl (by decide) rfl (fun ls hl => ?_)
    exact B57 fu u4.1 u4.2 (t_X10_placesOf g a v1) u2 0 0 _ _ _ hP hS (lv_sub hl [5, 3, 2, 1, 0] rfl) hf
  · replace hf := (if_neg c1).symm.trans hf
    refine lv_iconst (v := 0) hx hb dX3_leastAround_17 (by decide) ?_
    exact xi_retS (fr := (fun r => r.1)) (fw := (fun r => wX E r.2.1 r.2.2)) hx hb hr hlocks (Option.some.inj hf) hP hS dX3_leastAround_18
def f_X4_spreadOut_43 (g : xG) (a : xA) (K7 : Int32 → Int32 → Int32 → Int32 → Option (Int32)) (x1 : Int32) (x2 : Int32) (x4 : Int32) (x5 : Int32) (s0 : Int32) : Option (Int32) := K7 x1 (x2 ||| ((x5 : Int32) <<< ((5 * x4) &&& 31))) s0 (x4 + 1)
def f_X4_spreadOut_27 (g : xG) (a : xA) (K7 : Int32 → Int32 → Int32 → Int32 → Option (Int32)) (x1 : Int32) (x2 : Int32) (x3 : Int32) (x4 : Int32) (s0 : Int32) : Option (Int32) := (if x1 = 3 then f_X4_spreadOut_43 g a K7 x1 x2 x4 s0 (x3 / 3) else f_X4_spreadOut_43 g a K7 x1 x2 x4 s0 (x3 / 2))
def f_X4_spreadOut_7 (g : xG) (a : xA) : Nat → Int32 → Int32 → Int32 → Int32 → Option (Int32)
  | 0, _, _, _, _ => none
  | n + 1, x1, x2, x3, x4 => (if 4 ≤ x4 then some x2 else (if x1 = 3 then f_X4_spreadOut_27 g a (f_X4_spreadOut_7 g a n) x1 x2 x3 x4 (x3 - x3 / 3 * 3) else f_X4_spreadOut_27 g a (f_X4_spreadOut_7 g a n) x1 x2 x3 x4 (x3 - x3 / 2 * 2)))
theorem e_X4_spreadOut_7 (g : xG) (a : xA) (n : Nat) (x1 : Int32) (x2 : Int32) (x3 : Int32) (x4 : Int32) : f_X4_spreadOut_7 g a (n + 1) x1 x2 x3 x4 = (if 4 ≤ x4 then some x2 else (if x1 = 3 then f_X4_spreadOut_27 g a (f_X4_spreadOut_7 g a n) x1 x2 x3 x4 (x3 - x3 / 3 * 3) else f_X4_spreadOut_27 g a (f_X4_spreadOut_7 g a n) x1 x2 x3 x4 (x3 - x3 / 2 * 2))) := rfl
def f_X4_spreadOut (g : xG) (a : xA) (v0 : Int32) (v1 : Int32) : Option (Int32) := f_X4_spreadOut_7 g a fu v1 0 v0 0
set_option maxRecDepth 100000 in
set_option maxHeartbeats 40000000 in
theorem c_X4_spreadOut (l : Launch) (E : xE) (g : xG) (a : xA) (v0 : Int32) (v1 : Int32) {res : Int32} (hf : f_X4_spreadOut g a v0 v1 = some res) : xM l E yX4_spreadOut cX4_spreadOut 6 (some .int) 0 0 [.int v0, .int v1] (wX E g a) (xQi E res (wX E g a)) := by
  unfold f_X4_spreadOut at hf
  refine xM_of (by decide) (Nat.le_of_ble_eq_true rfl) ?_
  intro p e s m below meth c A hx hb hr hml hts hown hlocks hA hD hP hK hN hS ls hl
  have hw : ∀ w ∈ BW, w.before _ s = true := fun w h => hts w (List.mem_cons_of_mem _ h)
  have C0 : xCtx E p m c cX4_spreadOut 6 s _ RX4 A yX4_spreadOut cX4_spreadOut 6 (some .int) := ⟨hx, hb, hml, hown, hts, hA, hK, hN⟩
  have hl : lv_has ls 6 [(0, .int v0), (1, .int v1)] := hl
  have B43 : ∀ (K7 : Int32 → Int32 → Int32 → Int32 → Option (Int32)) (hK7 : ∀ (x1 : Int32) (x2 : Int32) (x3 : Int32) (x4 : Int32) (H : Heap) (locs : List Loc) (ls : Array Slot), va_P E.1 vwCl (wX E g a) H → va_S A s.heap H locs → lv_has ls 6 [(1, .int x1), (2, .int x2), (3, .int x3), (4, .int x4)] → K7 x1 x2 x3 x4 = some res → W p l e ({ frames := 0, cells := 0, slots := 0, locals := 0 }) s m ([.int v0, .int v1] : List Value).toArray below meth c H locs 0 0 (MQ below ((xQi E res (wX E g a)) A) ([.int v0, .int v1] : List Value).toArray s 0 0 A) (F0 m 7 ls [])) (x1 : Int32) (x2 : Int32) (x4 : Int32) (x5 : Int32) (s0 : Int32) (H : Heap) (locs : List Loc) (ls : Array Slot), va_P E.1 vwCl (wX E g a) H → va_S A s.heap H locs → lv_has ls 6 [(1, .int x1), (2, .int x2), (4, .int x4), (5, .int x5)] → f_X4_spreadOut_43 g a K7 x1 x2 x4 x5 s0 = some res → W p l e ({ frames := 0, cells := 0, slots := 0, locals := 0 }) s m ([.int v0, .int v1] : List Value).toArray below meth c H locs 0 0 (MQ below ((xQi E res (wX E g a)) A) ([.int v0, .int v1] : List Value).toArray s 0 0 A) (F0 m 43 ls [.int s0]) := by
    intro K7 hK7 x1 x2 x4 x5 s0 H locs ls hP hS hl hf
    unfold f_X4_spreadOut_43 at hf
    refine lv_istore_n (lv' := [(3, .int s0), (1, .int x1), (2, .int x2), (4, .int x4), (5, .int x5)]) hx hb dX4_spreadOut_43 rfl hl (by decide) rfl (fun ls hl => ?_)
    refine lv_iload_n hx hb dX4_spreadOut_44 rfl (lv_at hl 2 rfl) ?_
    refine lv_iload hx hb dX4_spreadOut_45 (lv_at hl 4 rfl) ?_
    refine lv_iconst (v := 5) hx hb dX4_spreadOut_47 (by decide) ?_
    refine lv_iload hx hb dX4_spreadOut_48 (lv_at hl 3 rfl) ?_
    refine lv_imul hx hb dX4_spreadOut_50 ?_
    refine lv_ishl hx hb dX4_spreadOut_51 ?_
    refine lv_ior hx hb dX4_spreadOut_52 ?_
    refine lv_istore_n (lv' := [(2, .int (x2 ||| ((x5 : Int32) <<< ((5 * x4) &&& 31)))), (3, .int s0), (1, .int x1), (4, .int x4), (5, .int x5)]) hx hb dX4_spreadOut_53 rfl hl (by decide) rfl (fun ls hl => ?_)
    refine lv_iinc (v := (x4 + 1)) (lv' := [(4, .int (x4 + 1)), (2, .int (x2 ||| ((x5 : Int32) <<< ((5 * x4) &&& 31)))), (3, .int s0), (1, .int x1), (5, .int x5)]) hx hb dX4_spreadOut_54 hl (k := 3) rfl rfl (by decide) rfl (fun ls hl => ?_)
    refine lv_goto (tgt := 7) hx hb dX4_spreadOut_57 (by decide) ?_
    exact hK7 x1 (x2 ||| ((x5 : Int32) <<< ((5 * x4) &&& 31))) s0 (x4 + 1) _ _ _ hP hS (lv_sub hl [3, 1, 2, 0] rfl) hf
  have B27 : ∀ (K7 : Int32 → Int32 → Int32 → Int32 → Option (Int32)) (hK7 : ∀ (x1 : Int32) (x2 : Int32) (x3 : Int32) (x4 : Int32) (H : Heap) (locs : List Loc) (ls : Array Slot), va_P E.1 vwCl (wX E g a) H → va_S A s.heap H locs → lv_has ls 6 [(1, .int x1), (2, .int x2), (3, .int x3), (4, .int x4)] → K7 x1 x2 x3 x4 = some res → W p l e ({ frames := 0, cells := 0, slots := 0, locals := 0 }) s m ([.int v0, .int v1] : List Value).toArray below meth c H locs 0 0 (MQ below ((xQi E res (wX E g a)) A) ([.int v0, .int v1] : List Value).toArray s 0 0 A) (F0 m 7 ls [])) (x1 : Int32) (x2 : Int32) (x3 : Int32) (x4 : Int32) (s0 : Int32) (H : Heap) (locs : List Loc) (ls : Array Slot), va_P E.1 vwCl (wX E g a) H → va_S A s.heap H locs → lv_has ls 6 [(1, .int x1), (2, .int x2), (3, .int x3), (4, .int x4)] → f_X4_spreadOut_27 g a K7 x1 x2 x3 x4 s0 = some res → W p l e ({ frames := 0, cells := 0, slots := 0, locals := 0 }) s m ([.int v0, .int v1] : List Value).toArray below meth c H locs 0 0 (MQ below ((xQi E res (wX E g a)) A) ([.int v0, .int v1] : List Value).toArray s 0 0 A) (F0 m 27 ls [.int s0]) := by
    intro K7 hK7 x1 x2 x3 x4 s0 H locs ls hP hS hl hf
    unfold f_X4_spreadOut_27 at hf
    refine lv_istore (lv' := [(5, .int s0), (1, .int x1), (2, .int x2), (3, .int x3), (4, .int x4)]) hx hb dX4_spreadOut_27 hl (by decide) rfl (fun ls hl => ?_)
    refine lv_iload_n hx hb dX4_spreadOut_29 rfl (lv_at hl 1 rfl) ?_
    refine lv_iconst (v := 3) hx hb dX4_spreadOut_30 (by decide) ?_
    refine lv_icmp_ne (tgt := 40) hx hb dX4_spreadOut_31 (by decide) (fun c3 => ?_) (fun c3 => ?_)
    · replace hf := (if_neg c3).symm.trans hf
      refine lv_iload_n hx hb dX4_spreadOut_40 rfl (lv_at hl 3 rfl) ?_
      refine lv_iconst (v := 2) hx hb dX4_spreadOut_41 (by decide) ?_
      refine lv_idiv hx hb dX4_spreadOut_42 (by decide) ?_
      exact B43 K7 hK7 x1 x2 x4 s0 (x3 / 2) _ _ _ hP hS (lv_sub hl [1, 2, 4, 0] rfl) hf
    · replace hf := (if_pos c3).symm.trans hf
      refine lv_iload_n hx hb dX4_spreadOut_34 rfl (lv_at hl 3 rfl) ?_
      refine lv_iconst (v := 3) hx hb dX4_spreadOut_35 (by decide) ?_
      refine lv_idiv hx hb dX4_spreadOut_36 (by decide) ?_
      refine lv_goto (tgt := 43) hx hb dX4_spreadOut_37 (by decide) ?_
      exact B43 K7 hK7 x1 x2 x4 s0 (x3 / 3) _ _ _ hP hS (lv_sub hl [1, 2, 4, 0] rfl) hf
  have B7 : ∀ (n : Nat) (x1 : Int32) (x2 : Int32) (x3 : Int32) (x4 : Int32) (H : Heap) (locs : List Loc) (ls : Array Slot), va_P E.1 vwCl (wX E g a) H → va_S A s.heap H locs → lv_has ls 6 [(1, .int x1), (2, .int x2), (3, .int x3), (4, .int x4)] → f_X4_spreadOut_7 g a n x1 x2 x3 x4 = some res → W p l e ({ frames := 0, cells := 0, slots := 0, locals := 0 }) s m ([.int v0, .int v1] : List Value).toArray below meth c H locs 0 0 (MQ below ((xQi E res (wX E g a)) A) ([.int v0, .int v1] : List Value).toArray s 0 0 A) (F0 m 7 ls []) := by
    intro n
    induction n with
    | zero => intro x1 x2 x3 x4 H locs ls hP hS hl hf; exact absurd (show (none : Option (Int32)) = some res from hf) (by intro h; cases h)
    | succ n ih =>
      intro x1 x2 x3 x4 H locs ls hP hS hl hf
      replace hf := (e_X4_spreadOut_7 g a n x1 x2 x3 x4).symm.trans hf
      refine lv_iload hx hb dX4_spreadOut_7 (lv_at hl 3 rfl) ?_
      refine lv_iconst (v := 4) hx hb dX4_spreadOut_9 (by decide) ?_
      refine lv_icmp_ge (tgt := 60) hx hb dX4_spreadOut_10 (by decide) (fun c1 => ?_) (fun c1 => ?_)
      · replace hf := (if_pos c1).symm.trans hf
        refine lv_iload_n hx hb dX4_spreadOut_60 rfl (lv_at hl 1 rfl) ?_
        exact xi_retS (fr := (fun r => r)) (fw := (fun r => wX E g a)) hx hb hr hlocks (Option.some.inj hf) hP hS dX4_spreadOut_61
      · replace hf := (if_neg c1).symm.trans hf
        refine lv_iload_n hx hb dX4_spreadOut_13 rfl (lv_at hl 0 rfl) ?_
        refine lv_iconst (v := 3) hx hb dX4_spreadOut_14 (by decide) ?_
        refine lv_icmp_ne (tgt := 24) hx hb dX4_spreadOut_15 (by decide) (fun c2 => ?_) (fun c2 => ?_)
        · replace hf := (if_neg c2).symm.trans hf
          refine lv_iload_n hx hb dX4_spreadOut_24 rfl (lv_at hl 2 rfl) ?_
          refine lv_iconst (v := 2) hx hb dX4_spreadOut_25 (by decide) ?_
          refine lv_irem hx hb dX4_spreadOut_26 (by decide) ?_
          exact B27 (f_X4_spreadOut_7 g a n) ih x1 x2 x3 x4 (x3 - x3 / 2 * 2) _ _ _ hP hS (lv_sub hl [0, 1, 2, 3] rfl) hf
        · replace hf := (if_pos c2).symm.trans hf
          refine lv_iload_n hx hb dX4_spreadOut_18 rfl (lv_at hl 2 rfl) ?_
          refine lv_iconst (v := 3) hx hb dX4_spreadOut_19 (by decide) ?_
          refine lv_irem hx hb dX4_spreadOut_20 (by decide) ?_
          refine lv_goto (tgt := 27) hx hb dX4_spreadOut_21 (by decide) ?_
          exact B27 (f_X4_spreadOut_7 g a n) ih x1 x2 x3 x4 (x3 - x3 / 3 * 3) _ _ _ hP hS (lv_sub hl [0, 1, 2, 3] rfl) hf
  refine lv_iconst (v := 0) hx hb dX4_spreadOut_0 (by decide) ?_
  refine lv_istore_n (lv' := [(2, .int 0), (0, .int v0), (1, .int v1)]) hx hb dX4_spreadOut_1 rfl hl (by decide) rfl (fun ls hl => ?_)
  refine lv_iload_n hx hb dX4_spreadOut_2 rfl (lv_at hl 1 rfl) ?_
  refine lv_istore_n (lv' := [(3, .int v0), (2, .int 0), (0, .int v0), (1, .int v1)]) hx hb dX4_spreadOut_3 rfl hl (by decide) rfl (fun ls hl => ?_)
  refine lv_iconst (v := 0) hx hb dX4_spreadOut_4 (by decide) ?_
  refine lv_istore (lv' := [(4, .int 0), (3, .int v0), (2, .int 0), (0, .int v0), (1, .int v1)]) hx hb dX4_spreadOut_5 hl (by decide) rfl (fun ls hl => ?_)
  exact B7 fu v1 0 v0 0 _ _ _ hP hS (lv_sub hl [4, 2, 1, 0] rfl) hf
def f_X4_begin_37 : Nat → xG → xA → Int32 → Int32 → Option (xG × xA)
  | 0, _, _, _, _ => none
  | n + 1, g, a, x1, x3 => (if 27 ≤ x3 then some (g, a) else Option.bind (f_X4_spreadOut g a x3 x1) (fun u4 => ck (inB x3 27) (f_X4_begin_37 n g (upA a 3 (upd (a 3) (x3 : Int32).toNatClampNeg u4)) x1 (x3 + 1))))
theorem e_X4_begin_37 (n : Nat) (g : xG) (a : xA) (x1 : Int32) (x3 : Int32) : f_X4_begin_37 (n + 1) g a x1 x3 = (if 27 ≤ x3 then some (g, a) else Option.bind (f_X4_spreadOut g a x3 x1) (fun u4 => ck (inB x3 27) (f_X4_begin_37 n g (upA a 3 (upd (a 3) (x3 : Int32).toNatClampNeg u4)) x1 (x3 + 1)))) := rfl
def f_X4_begin_9 : Nat → xG → xA → Int32 → Int32 → Int32 → Option (xG × xA)
  | 0, _, _, _, _, _ => none
  | n + 1, g, a, x1, x2, x3 => (if 7 ≤ x3 then f_X4_begin_37 fu g a x1 0 else ck (inB x3 7) (f_X4_begin_9 n g (upA a 2 (upd (a 2) (x3 : Int32).toNatClampNeg x2)) x1 (x2 * x1) (x3 + 1)))
theorem e_X4_begin_9 (n : Nat) (g : xG) (a : xA) (x1 : Int32) (x2 : Int32) (x3 : Int32) : f_X4_begin_9 (n + 1) g a x1 x2 x3 = (if 7 ≤ x3 then f_X4_begin_37 fu g a x1 0 else ck (inB x3 7) (f_X4_begin_9 n g (upA a 2 (upd (a 2) (x3 : Int32).toNatClampNeg x2)) x1 (x2 * x1) (x3 + 1))) := rfl
def f_X4_begin (g : xG) (a : xA) (v1 : Int32) : Option (xG × xA) := f_X4_begin_9 fu (upd g 0 v1) a v1 1 0
set_option maxRecDepth 100000 in
set_option maxHeartbeats 40000000 in
theorem c_X4_begin (l : Launch) (E : xE) (g : xG) (a : xA) (v1 : Int32) {res : xG × xA} (hf : f_X4_begin g a v1 = some res) : xM l E yX4_begin cX4_begin 4 none 1 25 [.ref (E.2.1 1), .int v1] (wX E g a) (xQv E (wX E res.1 res.2)) := by
  unfold f_X4_begin at hf
  refine xM_of (by decide) (Nat.le_of_ble_eq_true rfl) ?_
  intro p e s m below meth c A hx hb hr hml hts hown hlocks hA hD hP hK hN hS ls hl
  have hw : ∀ w ∈ BW, w.before _ s = true := fun w h => hts w (List.mem_cons_of_mem _ h)
  have C0 : xCtx E p m c cX4_begin 4 s _ RX4 A yX4_begin cX4_begin 4 none := ⟨hx, hb, hml, hown, hts, hA, hK, hN⟩
  have hl : lv_has ls 4 [(0, .ref (E.2.1 1)), (1, .int v1)] := hl
  have B37 : ∀ (n : Nat) (g : xG) (a : xA) (x1 : Int32) (x3 : Int32) (H : Heap) (locs : List Loc) (ls : Array Slot), va_P E.1 vwCl (wX E g a) H → va_S A s.heap H locs → lv_has ls 4 [(0, .ref (E.2.1 1)), (1, .int x1), (3, .int x3)] → f_X4_begin_37 n g a x1 x3 = some res → W p l e ({ frames := 1, cells := 0, slots := 0, locals := 25 }) s m ([.ref (E.2.1 1), .int v1] : List Value).toArray below meth c H locs 0 0 (MQ below ((xQv E (wX E res.1 res.2)) A) ([.ref (E.2.1 1), .int v1] : List Value).toArray s 0 0 A) (F0 m 37 ls []) := by
    intro n
    induction n with
    | zero => intro g a x1 x3 H locs ls hP hS hl hf; exact absurd (show (none : Option (xG × xA)) = some res from hf) (by intro h; cases h)
    | succ n ih =>
      intro g a x1 x3 H locs ls hP hS hl hf
      replace hf := (e_X4_begin_37 n g a x1 x3).symm.trans hf
      refine lv_iload_n hx hb dX4_begin_37 rfl (lv_at hl 2 rfl) ?_
      refine lv_aload_n hx hb dX4_begin_38 rfl (lv_at hl 0 rfl) ?_
      refine va_get (C := RX4) (T := TX4) (N := 3) hx hb hw bfX40 hown hK hP 1 (gx_1 E g a) rfl 2 (by decide) (hw _ bw11) (fun _ h9 => h9) rfl dX4_begin_39 ?_
      refine va_alen (v := 27) hx hb hK hP 3 0 (gx_3 E g a) rfl rfl dX4_begin_42 ?_
      refine lv_icmp_ge (tgt := 63) hx hb dX4_begin_43 (by decide) (fun c3 => ?_) (fun c3 => ?_)
      · replace hf := (if_pos c3).symm.trans hf
        exact xv_retS (fw := (fun r => wX E r.1 r.2)) hx hb hr hlocks (Option.some.inj hf) hP hS dX4_begin_63
      · replace hf := (if_neg c3).symm.trans hf
        refine lv_aload_n hx hb dX4_begin_46 rfl (lv_at hl 0 rfl) ?_
        refine va_get (C := RX4) (T := TX4) (N := 3) hx hb hw bfX40 hown hK hP 1 (gx_1 E g a) rfl 2 (by decide) (hw _ bw11) (fun _ h9 => h9) rfl dX4_begin_47 ?_
        refine lv_iload_n hx hb dX4_begin_50 rfl (lv_at hl 2 rfl) ?_
        refine lv_iload_n hx hb dX4_begin_51 rfl (lv_at hl 2 rfl) ?_
        refine lv_iload_n hx hb dX4_begin_52 rfl (lv_at hl 1 rfl) ?_
        obtain ⟨u4, e5, hf⟩ := bd_some hf
        refine xci (xRunS (rest := [.int x3, .ref (E.2.1 3)]) (As := [.int x3, .int x1]) (k := 2) C0 (c_X4_spreadOut l E g a x3 x1 e5) bw433 bw435 bw22 bw436 hd_X4_spreadOut ⟨Nat.le_of_ble_eq_true rfl, Nat.le_of_ble_eq_true rfl⟩ hP (wX_D hD) hS rfl hl.1 rfl (Nat.le_of_ble_eq_true rfl) dX4_begin_53 ⟨Nat.zero_le _, Nat.zero_le _⟩) hS (fun H locs hP hS => ?_)
        obtain ⟨k6, hf⟩ := ck_some hf
        refine va_iast hx hb hK hP (wX_D hD) hS 3 0 (gx_3 E g a) rfl (inB_in k6) dX4_begin_56 (fun H locs hP _ hS => ?_)
        have hP := xP_eq (sx_a3 E g a (upd (a 3) (x3 : Int32).toNatClampNeg u4)) hP
        refine lv_iinc (v := (x3 + 1)) (lv' := [(3, .int (x3 + 1)), (0, .ref (E.2.1 1)), (1, .int x1)]) hx hb dX4_begin_57 hl (k := 2) rfl rfl (by decide) rfl (fun ls hl => ?_)
        refine lv_goto (tgt := 37) hx hb dX4_begin_60 (by decide) ?_
        exact ih g (upA a 3 (upd (a 3) (x3 : Int32).toNatClampNeg u4)) x1 (x3 + 1) _ _ _ hP hS (lv_sub hl [1, 2, 0] rfl) hf
  have B9 : ∀ (n : Nat) (g : xG) (a : xA) (x1 : Int32) (x2 : Int32) (x3 : Int32) (H : Heap) (locs : List Loc) (ls : Array Slot), va_P E.1 vwCl (wX E g a) H → va_S A s.heap H locs → lv_has ls 4 [(0, .ref (E.2.1 1)), (1, .int x1), (2, .int x2), (3, .int x3)] → f_X4_begin_9 n g a x1 x2 x3 = some res → W p l e ({ frames := 1, cells := 0, slots := 0, locals := 25 }) s m ([.ref (E.2.1 1), .int v1] : List Value).toArray below meth c H locs 0 0 (MQ below ((xQv E (wX E res.1 res.2)) A) ([.ref (E.2.1 1), .int v1] : List Value).toArray s 0 0 A) (F0 m 9 ls []) := by
    intro n
    induction n with
    | zero => intro g a x1 x2 x3 H locs ls hP hS hl hf; exact absurd (show (none : Option (xG × xA)) = some res from hf) (by intro h; cases h)
    | succ n ih =>
      intro g a x1 x2 x3 H locs ls hP hS hl hf
      replace hf := (e_X4_begin_9 n g a x1 x2 x3).symm.trans hf
      refine lv_iload_n hx hb dX4_begin_9 rfl (lv_at hl 3 rfl) ?_
      refine lv_aload_n hx hb dX4_begin_10 rfl (lv_at hl 0 rfl) ?_
      refine va_get (C := RX4) (T := TX4) (N := 3) hx hb hw bfX40 hown hK hP 1 (gx_1 E g a) rfl 1 (by decide) (hw _ bw56) (fun _ h9 => h9) rfl dX4_begin_11 ?_
      refine va_alen (v := 7) hx hb hK hP 2 0 (gx_2 E g a) rfl rfl dX4_begin_14 ?_
      refine lv_icmp_ge (tgt := 35) hx hb dX4_begin_15 (by decide) (fun c1 => ?_) (fun c1 => ?_)
      · replace hf := (if_pos c1).symm.trans hf
        refine lv_iconst (v := 0) hx hb dX4_begin_35 (by decide) ?_
        refine lv_istore_n (lv' := [(3, .int 0), (0, .ref (E.2.1 1)), (1, .int x1), (2, .int x2)]) hx hb dX4_begin_36 rfl hl (by decide) rfl (fun ls hl => ?_)
        exact B37 fu g a x1 0 _ _ _ hP hS (lv_sub hl [1, 2, 0] rfl) hf
      · replace hf := (if_neg c1).symm.trans hf
        refine lv_aload_n hx hb dX4_begin_18 rfl (lv_at hl 0 rfl) ?_
        refine va_get (C := RX4) (T := TX4) (N := 3) hx hb hw bfX40 hown hK hP 1 (gx_1 E g a) rfl 1 (by decide) (hw _ bw56) (fun _ h9 => h9) rfl dX4_begin_19 ?_
        refine lv_iload_n hx hb dX4_begin_22 rfl (lv_at hl 3 rfl) ?_
        refine lv_iload_n hx hb dX4_begin_23 rfl (lv_at hl 2 rfl) ?_
        obtain ⟨k2, hf⟩ := ck_some hf
        refine va_iast hx hb hK hP (wX_D hD) hS 2 0 (gx_2 E g a) rfl (inB_in k2) dX4_begin_24 (fun H locs hP _ hS => ?_)
        have hP := xP_eq (sx_a2 E g a (upd (a 2) (x3 : Int32).toNatClampNeg x2)) hP
        refine lv_iload_n hx hb dX4_begin_25 rfl (lv_at hl 2 rfl) ?_
        refine lv_iload_n hx hb dX4_begin_26 rfl (lv_at hl 1 rfl) ?_
        refine lv_imul hx hb dX4_begin_27 ?_
        refine lv_istore_n (lv' := [(2, .int (x2 * x1)), (0, .ref (E.2.1 1)), (1, .int x1), (3, .int x3)]) hx hb dX4_begin_28 rfl hl (by decide) rfl (fun ls hl => ?_)
        refine lv_iinc (v := (x3 + 1)) (lv' := [(3, .int (x3 + 1)), (2, .int (x2 * x1)), (0, .ref (E.2.1 1)), (1, .int x1)]) hx hb dX4_begin_29 hl (k := 3) rfl rfl (by decide) rfl (fun ls hl => ?_)
        refine lv_goto (tgt := 9) hx hb dX4_begin_32 (by decide) ?_
        exact ih g (upA a 2 (upd (a 2) (x3 : Int32).toNatClampNeg x2)) x1 (x2 * x1) (x3 + 1) _ _ _ hP hS (lv_sub hl [2, 3, 1, 0] rfl) hf
  refine lv_aload_n hx hb dX4_begin_0 rfl (lv_at hl 0 rfl) ?_
  refine lv_iload_n hx hb dX4_begin_1 rfl (lv_at hl 1 rfl) ?_
  refine va_put (v := .int v1) (ty := .int) (C := RX4) (T := TX4) (N := 3) hx hb hw bfX40 tyX4 tyX4_ok nmX4 hown hK hP (wX_D hD) hS 1 (gx_1 E g a) rfl 0 (by decide) (hw _ bw97) (fun _ h9 => h9) rfl (by decide +kernel) rfl rfl (Nat.le_of_ble_eq_true rfl) dX4_begin_2 (fun H locs hP _ hS => ?_)
  have hP := xP_eq (sx_g0 E g a v1) hP
  refine lv_iconst (v := 1) hx hb dX4_begin_5 (by decide) ?_
  refine lv_istore_n (lv' := [(2, .int 1), (0, .ref (E.2.1 1)), (1, .int v1)]) hx hb dX4_begin_6 rfl hl (by decide) rfl (fun ls hl => ?_)
  refine lv_iconst (v := 0) hx hb dX4_begin_7 (by decide) ?_
  refine lv_istore_n (lv' := [(3, .int 0), (2, .int 1), (0, .ref (E.2.1 1)), (1, .int v1)]) hx hb dX4_begin_8 rfl hl (by decide) rfl (fun ls hl => ?_)
  exact B9 fu (upd g 0 v1) a v1 1 0 _ _ _ hP hS (lv_sub hl [2, 3, 1, 0] rfl) hf
def f_X6_add (g : xG) (a : xA) (v1 : Int32) : Option (Int32 × xG × xA) := (om (getF ((upd g 4 ((g 4) + 1)) 4) (g 4)) (some ((g 4), (upd g 4 ((g 4) + 1)), a)) (fun k2 => Option.bind (f_X5_begin k2 (upd g 4 ((g 4) + 1)) a v1) (fun u3 => some ((g 4), u3.1, u3.2))))
set_option maxRecDepth 100000 in
set_option maxHeartbeats 40000000 in
theorem c_X6_add (l : Launch) (E : xE) (g : xG) (a : xA) (v1 : Int32) {res : Int32 × xG × xA} (hf : f_X6_add g a v1 = some res) : xM l E yX6_add cX6_add 4 (some .int) 4 84 [.ref (E.2.1 10), .int v1] (wX E g a) (xQi E res.1 (wX E res.2.1 res.2.2)) := by
  unfold f_X6_add at hf
  refine xM_of (by decide) (Nat.le_of_ble_eq_true rfl) ?_
  intro p e s m below meth c A hx hb hr hml hts hown hlocks hA hD hP hK hN hS ls hl
  have hw : ∀ w ∈ BW, w.before _ s = true := fun w h => hts w (List.mem_cons_of_mem _ h)
  have C0 : xCtx E p m c cX6_add 4 s _ RX6 A yX6_add cX6_add 4 (some .int) := ⟨hx, hb, hml, hown, hts, hA, hK, hN⟩
  have hl : lv_has ls 4 [(0, .ref (E.2.1 10)), (1, .int v1)] := hl
  refine lv_aload_n hx hb dX6_add_0 rfl (lv_at hl 0 rfl) ?_
  refine va_get (C := RX6) (T := TX6) (N := 5) hx hb hw bfX60 hown hK hP 10 (gx_10 E g a) rfl 0 (by decide) (hw _ bw446) (fun _ h9 => h9) rfl dX6_add_1 ?_
  refine lv_istore_n (lv' := [(2, .int (g 4)), (0, .ref (E.2.1 10)), (1, .int v1)]) hx hb dX6_add_4 rfl hl (by decide) rfl (fun ls hl => ?_)
  refine lv_aload_n hx hb dX6_add_5 rfl (lv_at hl 1 rfl) ?_
  refine lv_dup hx hb dX6_add_6 rfl ?_
  refine va_get (C := RX6) (T := TX6) (N := 5) hx hb hw bfX60 hown hK hP 10 (gx_10 E g a) rfl 0 (by decide) (hw _ bw446) (fun _ h9 => h9) rfl dX6_add_7 ?_
  refine lv_iconst (v := 1) hx hb dX6_add_10 (by decide) ?_
  refine lv_iadd hx hb dX6_add_11 ?_
  refine va_put (v := .int ((g 4) + 1)) (ty := .int) (C := RX6) (T := TX6) (N := 5) hx hb hw bfX60 tyX6 tyX6_ok nmX6 hown hK hP (wX_D hD) hS 10 (gx_10 E g a) rfl 0 (by decide) (hw _ bw446) (fun _ h9 => h9) rfl (by decide +kernel) rfl rfl (Nat.le_of_ble_eq_true rfl) dX6_add_12 (fun H locs hP _ hS => ?_)
  have hP := xP_eq (sx_g4 E g a ((g 4) + 1)) hP
  refine lv_aload_n hx hb dX6_add_15 rfl (lv_at hl 1 rfl) ?_
  refine lv_iload_n hx hb dX6_add_16 rfl (lv_at hl 0 rfl) ?_
  rcases q1 : (getF ((upd g 4 ((g 4) + 1)) 4) (g 4)) with _ | k2
  · replace hf := (om_none q1).symm.trans hf
    refine xcq (xRunV (rest := []) (As := [.int (g 4)]) (C := RX6) (k := 1) C0 (c_X6_getN l E (upd g 4 ((g 4) + 1)) a (g 4) q1) bw445 bw447 bw450 bw448 bw449 hd_X6_get ⟨Nat.le_of_ble_eq_true rfl, Nat.le_of_ble_eq_true rfl⟩ hP (wX_D hD) hS (va_recv hK hP (ci := 6) rfl (gx_10 E (upd g 4 ((g 4) + 1)) a)) rfl hl.1 rfl (Nat.le_of_ble_eq_true rfl) dX6_add_17 ⟨Nat.zero_le _, Nat.zero_le _⟩) hS (fun H locs hP hS => ?_)
    refine lv_astore_nN (lv' := [(3, .null), (2, .int (g 4)), (0, .ref (E.2.1 10)), (1, .int v1)]) hx hb dX6_add_20 rfl hl (by decide) rfl (fun ls hl => ?_)
    refine lv_aload_nN hx hb dX6_add_21 rfl (lv_at hl 0 rfl) ?_
    refine lv_ifnullN (tgt := 30) hx hb dX6_add_22 (by decide) ?_
    refine lv_iload_n hx hb dX6_add_30 rfl (lv_at hl 1 rfl) ?_
    exact xi_retS (fr := (fun r => r.1)) (fw := (fun r => wX E r.2.1 r.2.2)) hx hb hr hlocks (Option.some.inj hf) hP hS dX6_add_31
  · replace hf := (om_some q1).symm.trans hf
    have hk2 := getF_lt q1
    refine xcq (xRunV (rest := []) (As := [.int (g 4)]) (C := RX6) (k := 1) C0 (c_X6_getS l E (upd g 4 ((g 4) + 1)) a (g 4) q1) bw445 bw447 bw450 bw448 bw449 hd_X6_get ⟨Nat.le_of_ble_eq_true rfl, Nat.le_of_ble_eq_true rfl⟩ hP (wX_D hD) hS (va_recv hK hP (ci := 6) rfl (gx_10 E (upd g 4 ((g 4) + 1)) a)) rfl hl.1 rfl (Nat.le_of_ble_eq_true rfl) dX6_add_17 ⟨Nat.zero_le _, Nat.zero_le _⟩) hS (fun H locs hP hS => ?_)
    refine lv_astore_n (lv' := [(3, .ref (E.2.1 (40 + k2))), (2, .int (g 4)), (0, .ref (E.2.1 10)), (1, .int v1)]) hx hb dX6_add_20 rfl hl (by decide) rfl (fun ls hl => ?_)
    refine lv_aload_n hx hb dX6_add_21 rfl (lv_at hl 0 rfl) ?_
    refine lv_ifnull hx hb dX6_add_22 ?_
    refine lv_aload_n hx hb dX6_add_25 rfl (lv_at hl 0 rfl) ?_
    refine lv_iload_n hx hb dX6_add_26 rfl (lv_at hl 3 rfl) ?_
    obtain ⟨u3, e4, hf⟩ := bd_some hf
    refine xcv (xRunV (rest := []) (As := [.int v1]) (C := RX5) (k := 1) C0 (c_X5_begin l E k2 hk2 (upd g 4 ((g 4) + 1)) a v1 e4) bw288 bw451 bw44 bw297 bw298 hd_X5_begin ⟨Nat.le_of_ble_eq_true rfl, Nat.le_of_ble_eq_true rfl⟩ hP (wX_D hD) hS (va_recv hK hP (ci := 5) rfl (gx_op E (upd g 4 ((g 4) + 1)) a k2 hk2)) rfl hl.1 rfl (Nat.le_of_ble_eq_true rfl) dX6_add_27 ⟨Nat.zero_le _, Nat.zero_le _⟩) hS (fun H locs hP hS => ?_)
    refine lv_iload_n hx hb dX6_add_30 rfl (lv_at hl 1 rfl) ?_
    exact xi_retS (fr := (fun r => r.1)) (fw := (fun r => wX E r.2.1 r.2.2)) hx hb hr hlocks (Option.some.inj hf) hP hS dX6_add_31
def f_X6_addMade (g : xG) (a : xA) (v1 : Int32) : Option (Int32 × xG × xA) := (om (getF ((upd g 4 ((g 4) + 1)) 4) (g 4)) (some ((g 4), (upd g 4 ((g 4) + 1)), a)) (fun k2 => Option.bind (f_X5_become k2 (upd g 4 ((g 4) + 1)) a v1) (fun u3 => some ((g 4), u3.1, u3.2))))
set_option maxRecDepth 100000 in
set_option maxHeartbeats 40000000 in
theorem c_X6_addMade (l : Launch) (E : xE) (g : xG) (a : xA) (v1 : Int32) {res : Int32 × xG × xA} (hf : f_X6_addMade g a v1 = some res) : xM l E yX6_addMade cX6_addMade 4 (some .int) 5 109 [.ref (E.2.1 10), .int v1] (wX E g a) (xQi E res.1 (wX E res.2.1 res.2.2)) := by
  unfold f_X6_addMade at hf
  refine xM_of (by decide) (Nat.le_of_ble_eq_true rfl) ?_
  intro p e s m below meth c A hx hb hr hml hts hown hlocks hA hD hP hK hN hS ls hl
  have hw : ∀ w ∈ BW, w.before _ s = true := fun w h => hts w (List.mem_cons_of_mem _ h)
  have C0 : xCtx E p m c cX6_addMade 4 s _ RX6 A yX6_addMade cX6_addMade 4 (some .int) := ⟨hx, hb, hml, hown, hts, hA, hK, hN⟩
  have hl : lv_has ls 4 [(0, .ref (E.2.1 10)), (1, .int v1)] := hl
  refine lv_aload_n hx hb dX6_addMade_0 rfl (lv_at hl 0 rfl) ?_
  refine va_get (C := RX6) (T := TX6) (N := 5) hx hb hw bfX60 hown hK hP 10 (gx_10 E g a) rfl 0 (by decide) (hw _ bw446) (fun _ h9 => h9) rfl dX6_addMade_1 ?_
  refine lv_istore_n (lv' := [(2, .int (g 4)), (0, .ref (E.2.1 10)), (1, .int v1)]) hx hb dX6_addMade_4 rfl hl (by decide) rfl (fun ls hl => ?_)
  refine lv_aload_n hx hb dX6_addMade_5 rfl (lv_at hl 1 rfl) ?_
  refine lv_dup hx hb dX6_addMade_6 rfl ?_
  refine va_get (C := RX6) (T := TX6) (N := 5) hx hb hw bfX60 hown hK hP 10 (gx_10 E g a) rfl 0 (by decide) (hw _ bw446) (fun _ h9 => h9) rfl dX6_addMade_7 ?_
  refine lv_iconst (v := 1) hx hb dX6_addMade_10 (by decide) ?_
  refine lv_iadd hx hb dX6_addMade_11 ?_
  refine va_put (v := .int ((g 4) + 1)) (ty := .int) (C := RX6) (T := TX6) (N := 5) hx hb hw bfX60 tyX6 tyX6_ok nmX6 hown hK hP (wX_D hD) hS 10 (gx_10 E g a) rfl 0 (by decide) (hw _ bw446) (fun _ h9 => h9) rfl (by decide +kernel) rfl rfl (Nat.le_of_ble_eq_true rfl) dX6_addMade_12 (fun H locs hP _ hS => ?_)
  have hP := xP_eq (sx_g4 E g a ((g 4) + 1)) hP
  refine lv_aload_n hx hb dX6_addMade_15 rfl (lv_at hl 1 rfl) ?_
  refine lv_iload_n hx hb dX6_addMade_16 rfl (lv_at hl 0 rfl) ?_
  rcases q1 : (getF ((upd g 4 ((g 4) + 1)) 4) (g 4)) with _ | k2
  · replace hf := (om_none q1).symm.trans hf
    refine xcq (xRunV (rest := []) (As := [.int (g 4)]) (C := RX6) (k := 1) C0 (c_X6_getN l E (upd g 4 ((g 4) + 1)) a (g 4) q1) bw445 bw447 bw450 bw448 bw449 hd_X6_get ⟨Nat.le_of_ble_eq_true rfl, Nat.le_of_ble_eq_true rfl⟩ hP (wX_D hD) hS (va_recv hK hP (ci := 6) rfl (gx_10 E (upd g 4 ((g 4) + 1)) a)) rfl hl.1 rfl (Nat.le_of_ble_eq_true rfl) dX6_addMade_17 ⟨Nat.zero_le _, Nat.zero_le _⟩) hS (fun H locs hP hS => ?_)
    refine lv_astore_nN (lv' := [(3, .null), (2, .int (g 4)), (0, .ref (E.2.1 10)), (1, .int v1)]) hx hb dX6_addMade_20 rfl hl (by decide) rfl (fun ls hl => ?_)
    refine lv_aload_nN hx hb dX6_addMade_21 rfl (lv_at hl 0 rfl) ?_
    refine lv_ifnullN (tgt := 30) hx hb dX6_addMade_22 (by decide) ?_
    refine lv_iload_n hx hb dX6_addMade_30 rfl (lv_at hl 1 rfl) ?_
    exact xi_retS (fr := (fun r => r.1)) (fw := (fun r => wX E r.2.1 r.2.2)) hx hb hr hlocks (Option.some.inj hf) hP hS dX6_addMade_31
  · replace hf := (om_some q1).symm.trans hf
    have hk2 := getF_lt q1
    refine xcq (xRunV (rest := []) (As := [.int (g 4)]) (C := RX6) (k := 1) C0 (c_X6_getS l E (upd g 4 ((g 4) + 1)) a (g 4) q1) bw445 bw447 bw450 bw448 bw449 hd_X6_get ⟨Nat.le_of_ble_eq_true rfl, Nat.le_of_ble_eq_true rfl⟩ hP (wX_D hD) hS (va_recv hK hP (ci := 6) rfl (gx_10 E (upd g 4 ((g 4) + 1)) a)) rfl hl.1 rfl (Nat.le_of_ble_eq_true rfl) dX6_addMade_17 ⟨Nat.zero_le _, Nat.zero_le _⟩) hS (fun H locs hP hS => ?_)
    refine lv_astore_n (lv' := [(3, .ref (E.2.1 (40 + k2))), (2, .int (g 4)), (0, .ref (E.2.1 10)), (1, .int v1)]) hx hb dX6_addMade_20 rfl hl (by decide) rfl (fun ls hl => ?_)
    refine lv_aload_n hx hb dX6_addMade_21 rfl (lv_at hl 0 rfl) ?_
    refine lv_ifnull hx hb dX6_addMade_22 ?_
    refine lv_aload_n hx hb dX6_addMade_25 rfl (lv_at hl 0 rfl) ?_
    refine lv_iload_n hx hb dX6_addMade_26 rfl (lv_at hl 3 rfl) ?_
    obtain ⟨u3, e4, hf⟩ := bd_some hf
    refine xcv (xRunV (rest := []) (As := [.int v1]) (C := RX5) (k := 1) C0 (c_X5_become l E k2 hk2 (upd g 4 ((g 4) + 1)) a v1 e4) bw405 bw453 bw44 bw407 bw408 hd_X5_become ⟨Nat.le_of_ble_eq_true rfl, Nat.le_of_ble_eq_true rfl⟩ hP (wX_D hD) hS (va_recv hK hP (ci := 5) rfl (gx_op E (upd g 4 ((g 4) + 1)) a k2 hk2)) rfl hl.1 rfl (Nat.le_of_ble_eq_true rfl) dX6_addMade_27 ⟨Nat.zero_le _, Nat.zero_le _⟩) hS (fun H locs hP hS => ?_)
    refine lv_iload_n hx hb dX6_addMade_30 rfl (lv_at hl 1 rfl) ?_
    exact xi_retS (fr := (fun r => r.1)) (fw := (fun r => wX E r.2.1 r.2.2)) hx hb hr hlocks (Option.some.inj hf) hP hS dX6_addMade_31
def f_X6_closure_20 (K6 : xG → xA → Int32 → Int32 → Int32 → Int32 → Option (Int32 × xG × xA)) : Nat → xG → xA → Int32 → Int32 → Int32 → Int32 → Int32 → Int32 → Option (Int32 × xG × xA)
  | 0, _, _, _, _, _, _, _, _ => none
  | n + 1, g, a, x1, x3, x4, x5, x6, x7 => (if (g 4) ≤ x7 then (if x4 = x6 then some (x4, g, a) else K6 g a x1 x3 x4 (x5 + 1)) else (om (getF (g 4) x7) (f_X6_closure_20 K6 n g a x1 x3 x4 x5 x6 (x7 + 1)) (fun k5 => (if x3 < (t_X5_placeCount k5 g a) then f_X6_closure_20 K6 n g a x1 x3 x4 x5 x6 (x7 + 1) else Option.bind (f_X0_strays k5 g a x1 x4) (fun u7 => f_X6_closure_20 K6 n u7.2.1 u7.2.2 x1 x3 (x4 ||| u7.1) x5 x6 (x7 + 1))))))
theorem e_X6_closure_20 (K6 : xG → xA → Int32 → Int32 → Int32 → Int32 → Option (Int32 × xG × xA)) (n : Nat) (g : xG) (a : xA) (x1 : Int32) (x3 : Int32) (x4 : Int32) (x5 : Int32) (x6 : Int32) (x7 : Int32) : f_X6_closure_20 K6 (n + 1) g a x1 x3 x4 x5 x6 x7 = (if (g 4) ≤ x7 then (if x4 = x6 then some (x4, g, a) else K6 g a x1 x3 x4 (x5 + 1)) else (om (getF (g 4) x7) (f_X6_closure_20 K6 n g a x1 x3 x4 x5 x6 (x7 + 1)) (fun k5 => (if x3 < (t_X5_placeCount k5 g a) then f_X6_closure_20 K6 n g a x1 x3 x4 x5 x6 (x7 + 1) else Option.bind (f_X0_strays k5 g a x1 x4) (fun u7 => f_X6_closure_20 K6 n u7.2.1 u7.2.2 x1 x3 (x4 ||| u7.1) x5 x6 (x7 + 1)))))) := rfl
def f_X6_closure_6 : Nat → xG → xA → Int32 → Int32 → Int32 → Int32 → Option (Int32 × xG × xA)
  | 0, _, _, _, _, _, _ => none
  | n + 1, g, a, x1, x3, x4, x5 => (if 27 < x5 then some (x4, g, a) else f_X6_closure_20 (f_X6_closure_6 n) fu g a x1 x3 x4 x5 x4 0)
theorem e_X6_closure_6 (n : Nat) (g : xG) (a : xA) (x1 : Int32) (x3 : Int32) (x4 : Int32) (x5 : Int32) : f_X6_closure_6 (n + 1) g a x1 x3 x4 x5 = (if 27 < x5 then some (x4, g, a) else f_X6_closure_20 (f_X6_closure_6 n) fu g a x1 x3 x4 x5 x4 0) := rfl
def f_X6_closure (g : xG) (a : xA) (v1 : Int32) (v2 : Int32) (v3 : Int32) : Option (Int32 × xG × xA) := f_X6_closure_6 fu g a v1 v3 v2 0
set_option maxRecDepth 100000 in
set_option maxHeartbeats 40000000 in
theorem c_X6_closure (l : Launch) (E : xE) (g : xG) (a : xA) (v1 : Int32) (v2 : Int32) (v3 : Int32) {res : Int32 × xG × xA} (hf : f_X6_closure g a v1 v2 v3 = some res) : xM l E yX6_closure cX6_closure 9 (some .int) 5 115 [.ref (E.2.1 10), .int v1, .int v2, .int v3] (wX E g a) (xQi E res.1 (wX E res.2.1 res.2.2)) := by
  unfold f_X6_closure at hf
  refine xM_of (by decide) (Nat.le_of_ble_eq_true rfl) ?_
  intro p e s m below meth c A hx hb hr hml hts hown hlocks hA hD hP hK hN hS ls hl
  have hw : ∀ w ∈ BW, w.before _ s = true := fun w h => hts w (List.mem_cons_of_mem _ h)
  have C0 : xCtx E p m c cX6_closure 9 s _ RX6 A yX6_closure cX6_closure 9 (some .int) := ⟨hx, hb, hml, hown, hts, hA, hK, hN⟩
  have hl : lv_has ls 9 [(0, .ref (E.2.1 10)), (1, .int v1), (2, .int v2), (3, .int v3)] := hl
  have B20 : ∀ (K6 : xG → xA → Int32 → Int32 → Int32 → Int32 → Option (Int32 × xG × xA)) (hK6 : ∀ (g : xG) (a : xA) (x1 : Int32) (x3 : Int32) (x4 : Int32) (x5 : Int32) (H : Heap) (locs : List Loc) (ls : Array Slot), va_P E.1 vwCl (wX E g a) H → va_S A s.heap H locs → lv_has ls 9 [(0, .ref (E.2.1 10)), (1, .int x1), (3, .int x3), (4, .int x4), (5, .int x5)] → K6 g a x1 x3 x4 x5 = some res → W p l e ({ frames := 5, cells := 0, slots := 0, locals := 115 }) s m ([.ref (E.2.1 10), .int v1, .int v2, .int v3] : List Value).toArray below meth c H locs 0 0 (MQ below ((xQi E res.1 (wX E res.2.1 res.2.2)) A) ([.ref (E.2.1 10), .int v1, .int v2, .int v3] : List Value).toArray s 0 0 A) (F0 m 6 ls [])) (n : Nat) (g : xG) (a : xA) (x1 : Int32) (x3 : Int32) (x4 : Int32) (x5 : Int32) (x6 : Int32) (x7 : Int32) (H : Heap) (locs : List Loc) (ls : Array Slot), va_P E.1 vwCl (wX E g a) H → va_S A s.heap H locs → lv_has ls 9 [(0, .ref (E.2.1 10)), (1, .int x1), (3, .int x3), (4, .int x4), (5, .int x5), (6, .int x6), (7, .int x7)] → f_X6_closure_20 K6 n g a x1 x3 x4 x5 x6 x7 = some res → W p l e ({ frames := 5, cells := 0, slots := 0, locals := 115 }) s m ([.ref (E.2.1 10), .int v1, .int v2, .int v3] : List Value).toArray below meth c H locs 0 0 (MQ below ((xQi E res.1 (wX E res.2.1 res.2.2)) A) ([.ref (E.2.1 10), .int v1, .int v2, .int v3] : List Value).toArray s 0 0 A) (F0 m 20 ls []) := by
    intro K6 hK6 n
    induction n with
    | zero => intro g a x1 x3 x4 x5 x6 x7 H locs ls hP hS hl hf; exact absurd (show (none : Option (Int32 × xG × xA)) = some res from hf) (by intro h; cases h)
    | succ n ih =>
      intro g a x1 x3 x4 x5 x6 x7 H locs ls hP hS hl hf
      replace hf := (e_X6_closure_20 K6 n g a x1 x3 x4 x5 x6 x7).symm.trans hf
      refine lv_iload hx hb dX6_closure_20 (lv_at hl 6 rfl) ?_
      refine lv_aload_n hx hb dX6_closure_22 rfl (lv_at hl 0 rfl) ?_
      refine va_get (C := RX6) (T := TX6) (N := 5) hx hb hw bfX60 hown hK hP 10 (gx_10 E g a) rfl 0 (by decide) (hw _ bw446) (fun _ h9 => h9) rfl dX6_closure_23 ?_
      refine lv_icmp_ge (tgt := 74) hx hb dX6_closure_26 (by decide) (fun c2 => ?_) (fun c2 => ?_)
      · replace hf := (if_pos c2).symm.trans hf
        refine lv_iload hx hb dX6_closure_74 (lv_at hl 3 rfl) ?_
        refine lv_iload hx hb dX6_closure_76 (lv_at hl 5 rfl) ?_
        refine lv_icmp_ne (tgt := 84) hx hb dX6_closure_78 (by decide) (fun c3 => ?_) (fun c3 => ?_)
        · replace hf := (if_neg c3).symm.trans hf
          refine lv_iinc (v := (x5 + 1)) (lv' := [(5, .int (x5 + 1)), (0, .ref (E.2.1 10)), (1, .int x1), (3, .int x3), (4, .int x4), (6, .int x6), (7, .int x7)]) hx hb dX6_closure_84 hl (k := 4) rfl rfl (by decide) rfl (fun ls hl => ?_)
          refine lv_goto (tgt := 6) hx hb dX6_closure_87 (by decide) ?_
          exact hK6 g a x1 x3 x4 (x5 + 1) _ _ _ hP hS (lv_sub hl [1, 2, 3, 4, 0] rfl) hf
        · replace hf := (if_pos c3).symm.trans hf
          refine lv_goto (tgt := 90) hx hb dX6_closure_81 (by decide) ?_
          refine lv_iload hx hb dX6_closure_90 (lv_at hl 3 rfl) ?_
          exact xi_retS (fr := (fun r => r.1)) (fw := (fun r => wX E r.2.1 r.2.2)) hx hb hr hlocks (Option.some.inj hf) hP hS dX6_closure_92
      · replace hf := (if_neg c2).symm.trans hf
        refine lv_aload_n hx hb dX6_closure_29 rfl (lv_at hl 0 rfl) ?_
        refine lv_iload hx hb dX6_closure_30 (lv_at hl 6 rfl) ?_
        rcases q4 : (getF (g 4) x7) with _ | k5
        · replace hf := (om_none q4).symm.trans hf
          refine xcq (xRunV (rest := []) (As := [.int x7]) (C := RX6) (k := 1) C0 (c_X6_getN l E g a x7 q4) bw445 bw447 bw450 bw448 bw449 hd_X6_get ⟨Nat.le_of_ble_eq_true rfl, Nat.le_of_ble_eq_true rfl⟩ hP (wX_D hD) hS (va_recv hK hP (ci := 6) rfl (gx_10 E g a)) rfl hl.1 rfl (Nat.le_of_ble_eq_true rfl) dX6_closure_32 ⟨Nat.zero_le _, Nat.zero_le _⟩) hS (fun H locs hP hS => ?_)
          refine lv_astoreN (lv' := [(8, .null), (0, .ref (E.2.1 10)), (1, .int x1), (3, .int x3), (4, .int x4), (5, .int x5), (6, .int x6), (7, .int x7)]) hx hb dX6_closure_35 hl (by decide) rfl (fun ls hl => ?_)
          refine lv_aloadN hx hb dX6_closure_37 (lv_at hl 0 rfl) ?_
          refine lv_ifnullN (tgt := 68) hx hb dX6_closure_39 (by decide) ?_
          refine lv_iinc (v := (x7 + 1)) (lv' := [(7, .int (x7 + 1)), (8, .null), (0, .ref (E.2.1 10)), (1, .int x1), (3, .int x3), (4, .int x4), (5, .int x5), (6, .int x6)]) hx hb dX6_closure_68 hl (k := 7) rfl rfl (by decide) rfl (fun ls hl => ?_)
          refine lv_goto (tgt := 20) hx hb dX6_closure_71 (by decide) ?_
          exact ih g a x1 x3 x4 x5 x6 (x7 + 1) _ _ _ hP hS (lv_sub hl [2, 3, 4, 5, 6, 7, 0] rfl) hf
        · replace hf := (om_some q4).symm.trans hf
          have hk5 := getF_lt q4
          refine xcq (xRunV (rest := []) (As := [.int x7]) (C := RX6) (k := 1) C0 (c_X6_getS l E g a x7 q4) bw445 bw447 bw450 bw448 bw449 hd_X6_get ⟨Nat.le_of_ble_eq_true rfl, Nat.le_of_ble_eq_true rfl⟩ hP (wX_D hD) hS (va_recv hK hP (ci := 6) rfl (gx_10 E g a)) rfl hl.1 rfl (Nat.le_of_ble_eq_true rfl) dX6_closure_32 ⟨Nat.zero_le _, Nat.zero_le _⟩) hS (fun H locs hP hS => ?_)
          refine lv_astore (lv' := [(8, .ref (E.2.1 (40 + k5))), (0, .ref (E.2.1 10)), (1, .int x1), (3, .int x3), (4, .int x4), (5, .int x5), (6, .int x6), (7, .int x7)]) hx hb dX6_closure_35 hl (by decide) rfl (fun ls hl => ?_)
          refine lv_aload hx hb dX6_closure_37 (lv_at hl 0 rfl) ?_
          refine lv_ifnull hx hb dX6_closure_39 ?_
          refine lv_aload hx hb dX6_closure_42 (lv_at hl 0 rfl) ?_
          refine xci (xRunV (rest := []) (As := []) (C := RX5) (k := 0) C0 (c_X5_placeCount l E k5 hk5 g a) bw31 bw455 bw44 bw42 bw43 hd_X5_placeCount ⟨Nat.le_of_ble_eq_true rfl, Nat.le_of_ble_eq_true rfl⟩ hP (wX_D hD) hS (va_recv hK hP (ci := 5) rfl (gx_op E g a k5 hk5)) rfl hl.1 rfl (Nat.le_of_ble_eq_true rfl) dX6_closure_44 ⟨Nat.zero_le _, Nat.zero_le _⟩) hS (fun H locs hP hS => ?_)
          refine lv_iload_n hx hb dX6_closure_47 rfl (lv_at hl 3 rfl) ?_
          refine lv_icmp_gt (tgt := 68) hx hb dX6_closure_48 (by decide) (fun c6 => ?_) (fun c6 => ?_)
          · replace hf := (if_pos c6).symm.trans hf
            refine lv_iinc (v := (x7 + 1)) (lv' := [(7, .int (x7 + 1)), (8, .ref (E.2.1 (40 + k5))), (0, .ref (E.2.1 10)), (1, .int x1), (3, .int x3), (4, .int x4), (5, .int x5), (6, .int x6)]) hx hb dX6_closure_68 hl (k := 7) rfl rfl (by decide) rfl (fun ls hl => ?_)
            refine lv_goto (tgt := 20) hx hb dX6_closure_71 (by decide) ?_
            exact ih g a x1 x3 x4 x5 x6 (x7 + 1) _ _ _ hP hS (lv_sub hl [2, 3, 4, 5, 6, 7, 0] rfl) hf
          · replace hf := (if_neg c6).symm.trans hf
            refine lv_iload hx hb dX6_closure_51 (lv_at hl 4 rfl) ?_
            refine lv_aload_n hx hb dX6_closure_53 rfl (lv_at hl 1 rfl) ?_
            refine va_get (C := RX6) (T := TX6) (N := 5) hx hb hw bfX60 hown hK hP 10 (gx_10 E g a) rfl 2 (by decide) (hw _ bw443) (fun _ h9 => h9) rfl dX6_closure_54 ?_
            refine lv_aload hx hb dX6_closure_57 (lv_at hl 0 rfl) ?_
            refine lv_iload_n hx hb dX6_closure_59 rfl (lv_at hl 2 rfl) ?_
            refine lv_iload hx hb dX6_closure_60 (lv_at hl 4 rfl) ?_
            obtain ⟨u7, e8, hf⟩ := bd_some hf
            refine xci (xRunV (rest := [.int x4]) (As := [.ref (E.2.1 (40 + k5)), .int x1, .int x4]) (C := RX0) (k := 3) C0 (c_X0_strays l E k5 hk5 g a x1 x4 e8) bw63 bw456 bw30 bw65 bw66 hd_X0_strays ⟨Nat.le_of_ble_eq_true rfl, Nat.le_of_ble_eq_true rfl⟩ hP (wX_D hD) hS (va_recv hK hP (ci := 0) rfl (gx_7 E g a)) rfl hl.1 rfl (Nat.le_of_ble_eq_true rfl) dX6_closure_62 ⟨Nat.zero_le _, Nat.zero_le _⟩) hS (fun H locs hP hS => ?_)
            refine lv_ior hx hb dX6_closure_65 ?_
            refine lv_istore (lv' := [(4, .int (x4 ||| u7.1)), (8, .ref (E.2.1 (40 + k5))), (0, .ref (E.2.1 10)), (1, .int x1), (3, .int x3), (5, .int x5), (6, .int x6), (7, .int x7)]) hx hb dX6_closure_66 hl (by decide) rfl (fun ls hl => ?_)
            refine lv_iinc (v := (x7 + 1)) (lv' := [(7, .int (x7 + 1)), (4, .int (x4 ||| u7.1)), (8, .ref (E.2.1 (40 + k5))), (0, .ref (E.2.1 10)), (1, .int x1), (3, .int x3), (5, .int x5), (6, .int x6)]) hx hb dX6_closure_68 hl (k := 7) rfl rfl (by decide) rfl (fun ls hl => ?_)
            refine lv_goto (tgt := 20) hx hb dX6_closure_71 (by decide) ?_
            exact ih u7.2.1 u7.2.2 x1 x3 (x4 ||| u7.1) x5 x6 (x7 + 1) _ _ _ hP hS (lv_sub hl [3, 4, 5, 1, 6, 7, 0] rfl) hf
  have B6 : ∀ (n : Nat) (g : xG) (a : xA) (x1 : Int32) (x3 : Int32) (x4 : Int32) (x5 : Int32) (H : Heap) (locs : List Loc) (ls : Array Slot), va_P E.1 vwCl (wX E g a) H → va_S A s.heap H locs → lv_has ls 9 [(0, .ref (E.2.1 10)), (1, .int x1), (3, .int x3), (4, .int x4), (5, .int x5)] → f_X6_closure_6 n g a x1 x3 x4 x5 = some res → W p l e ({ frames := 5, cells := 0, slots := 0, locals := 115 }) s m ([.ref (E.2.1 10), .int v1, .int v2, .int v3] : List Value).toArray below meth c H locs 0 0 (MQ below ((xQi E res.1 (wX E res.2.1 res.2.2)) A) ([.ref (E.2.1 10), .int v1, .int v2, .int v3] : List Value).toArray s 0 0 A) (F0 m 6 ls []) := by
    intro n
    induction n with
    | zero => intro g a x1 x3 x4 x5 H locs ls hP hS hl hf; exact absurd (show (none : Option (Int32 × xG × xA)) = some res from hf) (by intro h; cases h)
    | succ n ih =>
      intro g a x1 x3 x4 x5 H locs ls hP hS hl hf
      replace hf := (e_X6_closure_6 n g a x1 x3 x4 x5).symm.trans hf
      refine lv_iload hx hb dX6_closure_6 (lv_at hl 4 rfl) ?_
      refine lv_bipush (v := 27) hx hb dX6_closure_8 (by decide) ?_
      refine lv_icmp_gt (tgt := 90) hx hb dX6_closure_10 (by decide) (fun c1 => ?_) (fun c1 => ?_)
      · replace hf := (if_pos c1).symm.trans hf
        refine lv_iload hx hb dX6_closure_90 (lv_at hl 3 rfl) ?_
        exact xi_retS (fr := (fun r => r.1)) (fw := (fun r => wX E r.2.1 r.2.2)) hx hb hr hlocks (Option.some.inj hf) hP hS dX6_closure_92
      · replace hf := (if_neg c1).symm.trans hf
        refine lv_iload hx hb dX6_closure_13 (lv_at hl 3 rfl) ?_
        refine lv_istore (lv' := [(6, .int x4), (0, .ref (E.2.1 10)), (1, .int x1), (3, .int x3), (4, .int x4), (5, .int x5)]) hx hb dX6_closure_15 hl (by decide) rfl (fun ls hl => ?_)
        refine lv_iconst (v := 0) hx hb dX6_closure_17 (by decide) ?_
        refine lv_istore (lv' := [(7, .int 0), (6, .int x4), (0, .ref (E.2.1 10)), (1, .int x1), (3, .int x3), (4, .int x4), (5, .int x5)]) hx hb dX6_closure_18 hl (by decide) rfl (fun ls hl => ?_)
        exact B20 (f_X6_closure_6 n) ih fu g a x1 x3 x4 x5 x4 0 _ _ _ hP hS (lv_sub hl [2, 3, 4, 5, 6, 1, 0] rfl) hf
  refine lv_iload_n hx hb dX6_closure_0 rfl (lv_at hl 2 rfl) ?_
  refine lv_istore (lv' := [(4, .int v2), (0, .ref (E.2.1 10)), (1, .int v1), (2, .int v2), (3, .int v3)]) hx hb dX6_closure_1 hl (by decide) rfl (fun ls hl => ?_)
  refine lv_iconst (v := 0) hx hb dX6_closure_3 (by decide) ?_
  refine lv_istore (lv' := [(5, .int 0), (4, .int v2), (0, .ref (E.2.1 10)), (1, .int v1), (2, .int v2), (3, .int v3)]) hx hb dX6_closure_4 hl (by decide) rfl (fun ls hl => ?_)
  exact B6 fu g a v1 v3 v2 0 _ _ _ hP hS (lv_sub hl [2, 3, 5, 1, 0] rfl) hf
def f_X6_unaryOnes_4 : Nat → xG → xA → Int32 → Int32 → Option (Int32 × xG × xA)
  | 0, _, _, _, _ => none
  | n + 1, g, a, x1, x2 => (if (g 0) ≤ x2 then Option.bind (f_X6_closure g a (g 0) ((1 : Int32) <<< (x1 &&& 31)) 1) (fun u2 => some (u2.1, u2.2.1, u2.2.2)) else f_X6_unaryOnes_4 n g a (x1 + (x2 * (t_X4_power g a x2))) (x2 + 1))
theorem e_X6_unaryOnes_4 (n : Nat) (g : xG) (a : xA) (x1 : Int32) (x2 : Int32) : f_X6_unaryOnes_4 (n + 1) g a x1 x2 = (if (g 0) ≤ x2 then Option.bind (f_X6_closure g a (g 0) ((1 : Int32) <<< (x1 &&& 31)) 1) (fun u2 => some (u2.1, u2.2.1, u2.2.2)) else f_X6_unaryOnes_4 n g a (x1 + (x2 * (t_X4_power g a x2))) (x2 + 1)) := rfl
def f_X6_unaryOnes (g : xG) (a : xA) : Option (Int32 × xG × xA) := f_X6_unaryOnes_4 fu g a 0 0
set_option maxRecDepth 100000 in
set_option maxHeartbeats 40000000 in
theorem c_X6_unaryOnes (l : Launch) (E : xE) (g : xG) (a : xA) {res : Int32 × xG × xA} (hf : f_X6_unaryOnes g a = some res) : xM l E yX6_unaryOnes cX6_unaryOnes 3 (some .int) 6 143 [.ref (E.2.1 10)] (wX E g a) (xQi E res.1 (wX E res.2.1 res.2.2)) := by
  unfold f_X6_unaryOnes at hf
  refine xM_of (by decide) (Nat.le_of_ble_eq_true rfl) ?_
  intro p e s m below meth c A hx hb hr hml hts hown hlocks hA hD hP hK hN hS ls hl
  have hw : ∀ w ∈ BW, w.before _ s = true := fun w h => hts w (List.mem_cons_of_mem _ h)
  have C0 : xCtx E p m c cX6_unaryOnes 3 s _ RX6 A yX6_unaryOnes cX6_unaryOnes 3 (some .int) := ⟨hx, hb, hml, hown, hts, hA, hK, hN⟩
  have hl : lv_has ls 3 [(0, .ref (E.2.1 10))] := hl
  have B4 : ∀ (n : Nat) (g : xG) (a : xA) (x1 : Int32) (x2 : Int32) (H : Heap) (locs : List Loc) (ls : Array Slot), va_P E.1 vwCl (wX E g a) H → va_S A s.heap H locs → lv_has ls 3 [(0, .ref (E.2.1 10)), (1, .int x1), (2, .int x2)] → f_X6_unaryOnes_4 n g a x1 x2 = some res → W p l e ({ frames := 6, cells := 0, slots := 0, locals := 143 }) s m ([.ref (E.2.1 10)] : List Value).toArray below meth c H locs 0 0 (MQ below ((xQi E res.1 (wX E res.2.1 res.2.2)) A) ([.ref (E.2.1 10)] : List Value).toArray s 0 0 A) (F0 m 4 ls []) := by
    intro n
    induction n with
    | zero => intro g a x1 x2 H locs ls hP hS hl hf; exact absurd (show (none : Option (Int32 × xG × xA)) = some res from hf) (by intro h; cases h)
    | succ n ih =>
      intro g a x1 x2 H locs ls hP hS hl hf
      replace hf := (e_X6_unaryOnes_4 n g a x1 x2).symm.trans hf
      refine lv_iload_n hx hb dX6_unaryOnes_4 rfl (lv_at hl 2 rfl) ?_
      refine lv_aload_n hx hb dX6_unaryOnes_5 rfl (lv_at hl 0 rfl) ?_
      refine va_get (C := RX6) (T := TX6) (N := 5) hx hb hw bfX60 hown hK hP 10 (gx_10 E g a) rfl 1 (by decide) (hw _ bw442) (fun _ h9 => h9) rfl dX6_unaryOnes_6 ?_
      refine va_get (C := RX4) (T := TX4) (N := 3) hx hb hw bfX40 hown hK hP 1 (gx_1 E g a) rfl 0 (by decide) (hw _ bw458) (fun _ h9 => h9) rfl dX6_unaryOnes_9 ?_
      refine lv_icmp_ge (tgt := 34) hx hb dX6_unaryOnes_12 (by decide) (fun c1 => ?_) (fun c1 => ?_)
      · replace hf := (if_pos c1).symm.trans hf
        refine lv_aload_n hx hb dX6_unaryOnes_34 rfl (lv_at hl 0 rfl) ?_
        refine lv_aload_n hx hb dX6_unaryOnes_35 rfl (lv_at hl 0 rfl) ?_
        refine va_get (C := RX6) (T := TX6) (N := 5) hx hb hw bfX60 hown hK hP 10 (gx_10 E g a) rfl 1 (by decide) (hw _ bw442) (fun _ h9 => h9) rfl dX6_unaryOnes_36 ?_
        refine va_get (C := RX4) (T := TX4) (N := 3) hx hb hw bfX40 hown hK hP 1 (gx_1 E g a) rfl 0 (by decide) (hw _ bw458) (fun _ h9 => h9) rfl dX6_unaryOnes_39 ?_
        refine lv_iconst (v := 1) hx hb dX6_unaryOnes_42 (by decide) ?_
        refine lv_iload_n hx hb dX6_unaryOnes_43 rfl (lv_at hl 1 rfl) ?_
        refine lv_ishl hx hb dX6_unaryOnes_44 ?_
        refine lv_iconst (v := 1) hx hb dX6_unaryOnes_45 (by decide) ?_
        obtain ⟨u2, e3, hf⟩ := bd_some hf
        refine xci (xRunV (rest := []) (As := [.int (g 0), .int ((1 : Int32) <<< (x1 &&& 31)), .int 1]) (C := RX6) (k := 3) C0 (c_X6_closure l E g a (g 0) ((1 : Int32) <<< (x1 &&& 31)) 1 e3) bw457 bw460 bw450 bw461 bw462 hd_X6_closure ⟨Nat.le_of_ble_eq_true rfl, Nat.le_of_ble_eq_true rfl⟩ hP (wX_D hD) hS (va_recv hK hP (ci := 6) rfl (gx_10 E g a)) rfl hl.1 rfl (Nat.le_of_ble_eq_true rfl) dX6_unaryOnes_46 ⟨Nat.zero_le _, Nat.zero_le _⟩) hS (fun H locs hP hS => ?_)
        exact xi_retS (fr := (fun r => r.1)) (fw := (fun r => wX E r.2.1 r.2.2)) hx hb hr hlocks (Option.some.inj hf) hP hS dX6_unaryOnes_49
      · replace hf := (if_neg c1).symm.trans hf
        refine lv_iload_n hx hb dX6_unaryOnes_15 rfl (lv_at hl 1 rfl) ?_
        refine lv_iload_n hx hb dX6_unaryOnes_16 rfl (lv_at hl 2 rfl) ?_
        refine lv_aload_n hx hb dX6_unaryOnes_17 rfl (lv_at hl 0 rfl) ?_
        refine va_get (C := RX6) (T := TX6) (N := 5) hx hb hw bfX60 hown hK hP 10 (gx_10 E g a) rfl 1 (by decide) (hw _ bw442) (fun _ h9 => h9) rfl dX6_unaryOnes_18 ?_
        refine lv_iload_n hx hb dX6_unaryOnes_21 rfl (lv_at hl 2 rfl) ?_
        refine xci (xRunV (rest := [.int x2, .int x1]) (As := [.int x2]) (C := RX4) (k := 1) C0 (c_X4_power l E g a x2) bw55 bw459 bw22 bw58 bw59 hd_X4_power ⟨Nat.le_of_ble_eq_true rfl, Nat.le_of_ble_eq_true rfl⟩ hP (wX_D hD) hS (va_recv hK hP (ci := 4) rfl (gx_1 E g a)) rfl hl.1 rfl (Nat.le_of_ble_eq_true rfl) dX6_unaryOnes_22 ⟨Nat.zero_le _, Nat.zero_le _⟩) hS (fun H locs hP hS => ?_)
        refine lv_imul hx hb dX6_unaryOnes_25 ?_
        refine lv_iadd hx hb dX6_unaryOnes_26 ?_
        refine lv_istore_n (lv' := [(1, .int (x1 + (x2 * (t_X4_power g a x2)))), (0, .ref (E.2.1 10)), (2, .int x2)]) hx hb dX6_unaryOnes_27 rfl hl (by decide) rfl (fun ls hl => ?_)
        refine lv_iinc (v := (x2 + 1)) (lv' := [(2, .int (x2 + 1)), (1, .int (x1 + (x2 * (t_X4_power g a x2)))), (0, .ref (E.2.1 10))]) hx hb dX6_unaryOnes_28 hl (k := 2) rfl rfl (by decide) rfl (fun ls hl => ?_)
        refine lv_goto (tgt := 4) hx hb dX6_unaryOnes_31 (by decide) ?_
        exact ih g a (x1 + (x2 * (t_X4_power g a x2))) (x2 + 1) _ _ _ hP hS (lv_sub hl [2, 1, 0] rfl) hf
  refine lv_iconst (v := 0) hx hb dX6_unaryOnes_0 (by decide) ?_
  refine lv_istore_n (lv' := [(1, .int 0), (0, .ref (E.2.1 10))]) hx hb dX6_unaryOnes_1 rfl hl (by decide) rfl (fun ls hl => ?_)
  refine lv_iconst (v := 0) hx hb dX6_unaryOnes_2 (by decide) ?_
  refine lv_istore_n (lv' := [(2, .int 0), (1, .int 0), (0, .ref (E.2.1 10))]) hx hb dX6_unaryOnes_3 rfl hl (by decide) rfl (fun ls hl => ?_)
  exact B4 fu g a 0 0 _ _ _ hP hS (lv_sub hl [2, 1, 0] rfl) hf
