/-! X5_points, X5_setAnswer, X5_begin, X5_answerAt, X5_wholeCode, X3_firstConstant, X5_pointOf, X3_trySymmetric, X5_answerFor, X5_isAssociative, X3_firstSemilattice, X8_keyOf, X8_ask, X8_allowAll, X8_begin, X8_allowOnly, J6_bitCount_0f7a4, X8_orderPoints, X8_isAllowed, X8_isFitting, X8_isCompleted -/
def t_X5_points (k : Nat) (g : xG) (a : xA) : Int32 := (t_X4_power g a (g (15 + k)))
set_option maxRecDepth 100000 in
set_option maxHeartbeats 40000000 in
theorem c_X5_points (l : Launch) (E : xE) (k : Nat) (hk : k < 7) (g : xG) (a : xA) : xM l E yX5_points cX5_points 1 (some .int) 2 42 [.ref (E.2.1 (40 + k))] (wX E g a) (xQi E (t_X5_points k g a) (wX E g a)) := by
  obtain ⟨res, hres⟩ : ∃ z, z = t_X5_points k g a := ⟨_, rfl⟩
  rw [← hres]
  have hf : _ = res := hres.symm
  unfold t_X5_points at hf
  refine xM_of (by decide) (Nat.le_of_ble_eq_true rfl) ?_
  intro p e s m below meth c A hx hb hr hml hts hown hlocks hA hD hP hK hN hS ls hl
  have hw : ∀ w ∈ BW, w.before _ s = true := fun w h => hts w (List.mem_cons_of_mem _ h)
  have C0 : xCtx E p m c cX5_points 1 s _ RX5 A yX5_points cX5_points 1 (some .int) := ⟨hx, hb, hml, hown, hts, hA, hK, hN⟩
  have hl : lv_has ls 1 [(0, .ref (E.2.1 (40 + k)))] := hl
  refine lv_aload_n hx hb dX5_points_0 rfl (lv_at hl 0 rfl) ?_
  refine va_get (C := RX5) (T := TX5) (N := 3) hx hb hw bfX50 hown hK hP (40 + k) (gx_op E g a k hk) rfl 0 (by decide) (hw _ bw35) (fun _ h9 => h9) rfl dX5_points_1 ?_
  refine lv_aload_n hx hb dX5_points_4 rfl (lv_at hl 0 rfl) ?_
  refine va_get (C := RX5) (T := TX5) (N := 3) hx hb hw bfX50 hown hK hP (40 + k) (gx_op E g a k hk) rfl 1 (by decide) (hw _ bw32) (fun _ h9 => h9) rfl dX5_points_5 ?_
  refine xci (xRunV (rest := []) (As := [.int (g (15 + k))]) (C := RX4) (k := 1) C0 (c_X4_power l E g a (g (15 + k))) bw55 bw279 bw22 bw58 bw59 hd_X4_power ⟨Nat.le_of_ble_eq_true rfl, Nat.le_of_ble_eq_true rfl⟩ hP (wX_D hD) hS (va_recv hK hP (ci := 4) rfl (gx_1 E g a)) rfl hl.1 rfl (Nat.le_of_ble_eq_true rfl) dX5_points_8 ⟨Nat.zero_le _, Nat.zero_le _⟩) hS (fun H locs hP hS => ?_)
  exact xi_retS (fr := (fun r => r)) (fw := (fun r => wX E g a)) hx hb hr hlocks hf hP hS dX5_points_11
def t_X5_setAnswer (k : Nat) (g : xG) (a : xA) (v1 : Int32) (v2 : Int32) : xA := (upA a (47 + k) (putF 32 (a (47 + k)) v1 v2))
set_option maxRecDepth 100000 in
set_option maxHeartbeats 40000000 in
theorem c_X5_setAnswer (l : Launch) (E : xE) (k : Nat) (hk : k < 7) (g : xG) (a : xA) (v1 : Int32) (v2 : Int32) : xM l E yX5_setAnswer cX5_setAnswer 3 none 1 22 [.ref (E.2.1 (40 + k)), .int v1, .int v2] (wX E g a) (xQv E (wX E g (t_X5_setAnswer k g a v1 v2))) := by
  obtain ⟨res, hres⟩ : ∃ z, z = t_X5_setAnswer k g a v1 v2 := ⟨_, rfl⟩
  rw [← hres]
  have hf : _ = res := hres.symm
  unfold t_X5_setAnswer at hf
  refine xM_of (by decide) (Nat.le_of_ble_eq_true rfl) ?_
  intro p e s m below meth c A hx hb hr hml hts hown hlocks hA hD hP hK hN hS ls hl
  have hw : ∀ w ∈ BW, w.before _ s = true := fun w h => hts w (List.mem_cons_of_mem _ h)
  have C0 : xCtx E p m c cX5_setAnswer 3 s _ RX5 A yX5_setAnswer cX5_setAnswer 3 none := ⟨hx, hb, hml, hown, hts, hA, hK, hN⟩
  have hl : lv_has ls 3 [(0, .ref (E.2.1 (40 + k))), (1, .int v1), (2, .int v2)] := hl
  refine lv_aload_n hx hb dX5_setAnswer_0 rfl (lv_at hl 0 rfl) ?_
  refine va_get (C := RX5) (T := TX5) (N := 3) hx hb hw bfX50 hown hK hP (40 + k) (gx_op E g a k hk) rfl 2 (by decide) (hw _ bw37) (fun _ h9 => h9) rfl dX5_setAnswer_1 ?_
  refine lv_iload_n hx hb dX5_setAnswer_4 rfl (lv_at hl 1 rfl) ?_
  refine lv_iload_n hx hb dX5_setAnswer_5 rfl (lv_at hl 2 rfl) ?_
  refine xcv (xRunN (rest := []) (As := [.ref (E.2.1 (47 + k)), .int v1, .int v2]) (k := 3) C0 (c_put l E (wX E g a) (47 + k) v1 v2 (gx_oa E g a k hk) (Nat.le_of_ble_eq_true rfl) (sx_oa E g a k hk (putF 32 (a (47 + k)) v1 v2))) bw14 nw13 bw13 bw23 hd_X11_put ⟨Nat.le_of_ble_eq_true rfl, Nat.le_of_ble_eq_true rfl⟩ hP (wX_D hD) hS rfl hl.1 rfl (Nat.le_of_ble_eq_true rfl) dX5_setAnswer_6 ⟨Nat.zero_le _, Nat.zero_le _⟩) hS (fun H locs hP hS => ?_)
  exact xv_retS (fw := (fun r => wX E g r)) hx hb hr hlocks hf hP hS dX5_setAnswer_9
def f_X5_begin_7 (k : Nat) : Nat → xG → xA → Int32 → Option (xG × xA)
  | 0, _, _, _ => none
  | n + 1, g, a, x2 => (if (t_X5_points k g a) ≤ x2 then some (g, a) else f_X5_begin_7 k n g (t_X5_setAnswer k g a x2 (t_X4_digit g a x2 0)) (x2 + 1))
theorem e_X5_begin_7 (k : Nat) (n : Nat) (g : xG) (a : xA) (x2 : Int32) : f_X5_begin_7 k (n + 1) g a x2 = (if (t_X5_points k g a) ≤ x2 then some (g, a) else f_X5_begin_7 k n g (t_X5_setAnswer k g a x2 (t_X4_digit g a x2 0)) (x2 + 1)) := rfl
def f_X5_begin (k : Nat) (g : xG) (a : xA) (v1 : Int32) : Option (xG × xA) := f_X5_begin_7 k fu (upd g (15 + k) v1) a 0
set_option maxRecDepth 100000 in
set_option maxHeartbeats 40000000 in
theorem c_X5_begin (l : Launch) (E : xE) (k : Nat) (hk : k < 7) (g : xG) (a : xA) (v1 : Int32) {res : xG × xA} (hf : f_X5_begin k g a v1 = some res) : xM l E yX5_begin cX5_begin 3 none 3 62 [.ref (E.2.1 (40 + k)), .int v1] (wX E g a) (xQv E (wX E res.1 res.2)) := by
  unfold f_X5_begin at hf
  refine xM_of (by decide) (Nat.le_of_ble_eq_true rfl) ?_
  intro p e s m below meth c A hx hb hr hml hts hown hlocks hA hD hP hK hN hS ls hl
  have hw : ∀ w ∈ BW, w.before _ s = true := fun w h => hts w (List.mem_cons_of_mem _ h)
  have C0 : xCtx E p m c cX5_begin 3 s _ RX5 A yX5_begin cX5_begin 3 none := ⟨hx, hb, hml, hown, hts, hA, hK, hN⟩
  have hl : lv_has ls 3 [(0, .ref (E.2.1 (40 + k))), (1, .int v1)] := hl
  have B7 : ∀ (n : Nat) (g : xG) (a : xA) (x2 : Int32) (H : Heap) (locs : List Loc) (ls : Array Slot), va_P E.1 vwCl (wX E g a) H → va_S A s.heap H locs → lv_has ls 3 [(0, .ref (E.2.1 (40 + k))), (2, .int x2)] → f_X5_begin_7 k n g a x2 = some res → W p l e ({ frames := 3, cells := 0, slots := 0, locals := 62 }) s m ([.ref (E.2.1 (40 + k)), .int v1] : List Value).toArray below meth c H locs 0 0 (MQ below ((xQv E (wX E res.1 res.2)) A) ([.ref (E.2.1 (40 + k)), .int v1] : List Value).toArray s 0 0 A) (F0 m 7 ls []) := by
    intro n
    induction n with
    | zero => intro g a x2 H locs ls hP hS hl hf; exact absurd (show (none : Option (xG × xA)) = some res from hf) (by intro h; cases h)
    | succ n ih =>
      intro g a x2 H locs ls hP hS hl hf
      replace hf := (e_X5_begin_7 k n g a x2).symm.trans hf
      refine lv_iload_n hx hb dX5_begin_7 rfl (lv_at hl 1 rfl) ?_
      refine lv_aload_n hx hb dX5_begin_8 rfl (lv_at hl 0 rfl) ?_
      refine xci (xRunV (rest := [.int x2]) (As := []) (C := RX5) (k := 0) C0 (c_X5_points l E k hk g a) bw278 bw281 bw44 bw282 bw283 hd_X5_points ⟨Nat.le_of_ble_eq_true rfl, Nat.le_of_ble_eq_true rfl⟩ hP (wX_D hD) hS (va_recv hK hP (ci := 5) rfl (gx_op E g a k hk)) rfl hl.1 rfl (Nat.le_of_ble_eq_true rfl) dX5_begin_9 ⟨Nat.zero_le _, Nat.zero_le _⟩) hS (fun H locs hP hS => ?_)
      refine lv_icmp_ge (tgt := 35) hx hb dX5_begin_12 (by decide) (fun c1 => ?_) (fun c1 => ?_)
      · replace hf := (if_pos c1).symm.trans hf
        exact xv_retS (fw := (fun r => wX E r.1 r.2)) hx hb hr hlocks (Option.some.inj hf) hP hS dX5_begin_35
      · replace hf := (if_neg c1).symm.trans hf
        refine lv_aload_n hx hb dX5_begin_15 rfl (lv_at hl 0 rfl) ?_
        refine lv_iload_n hx hb dX5_begin_16 rfl (lv_at hl 1 rfl) ?_
        refine lv_aload_n hx hb dX5_begin_17 rfl (lv_at hl 0 rfl) ?_
        refine va_get (C := RX5) (T := TX5) (N := 3) hx hb hw bfX50 hown hK hP (40 + k) (gx_op E g a k hk) rfl 0 (by decide) (hw _ bw35) (fun _ h9 => h9) rfl dX5_begin_18 ?_
        refine lv_iload_n hx hb dX5_begin_21 rfl (lv_at hl 1 rfl) ?_
        refine lv_iconst (v := 0) hx hb dX5_begin_22 (by decide) ?_
        refine xci (xRunV (rest := [.int x2, .ref (E.2.1 (40 + k))]) (As := [.int x2, .int 0]) (C := RX4) (k := 2) C0 (c_X4_digit l E g a x2 0) bw174 bw284 bw22 bw199 bw200 hd_X4_digit ⟨Nat.le_of_ble_eq_true rfl, Nat.le_of_ble_eq_true rfl⟩ hP (wX_D hD) hS (va_recv hK hP (ci := 4) rfl (gx_1 E g a)) rfl hl.1 rfl (Nat.le_of_ble_eq_true rfl) dX5_begin_23 ⟨Nat.zero_le _, Nat.zero_le _⟩) hS (fun H locs hP hS => ?_)
        refine xcv (xRunV (rest := []) (As := [.int x2, .int (t_X4_digit g a x2 0)]) (C := RX5) (k := 2) C0 (c_X5_setAnswer l E k hk g a x2 (t_X4_digit g a x2 0)) bw280 bw285 bw44 bw286 bw287 hd_X5_setAnswer ⟨Nat.le_of_ble_eq_true rfl, Nat.le_of_ble_eq_true rfl⟩ hP (wX_D hD) hS (va_recv hK hP (ci := 5) rfl (gx_op E g a k hk)) rfl hl.1 rfl (Nat.le_of_ble_eq_true rfl) dX5_begin_26 ⟨Nat.zero_le _, Nat.zero_le _⟩) hS (fun H locs hP hS => ?_)
        refine lv_iinc (v := (x2 + 1)) (lv' := [(2, .int (x2 + 1)), (0, .ref (E.2.1 (40 + k)))]) hx hb dX5_begin_29 hl (k := 1) rfl rfl (by decide) rfl (fun ls hl => ?_)
        refine lv_goto (tgt := 7) hx hb dX5_begin_32 (by decide) ?_
        exact ih g (t_X5_setAnswer k g a x2 (t_X4_digit g a x2 0)) (x2 + 1) _ _ _ hP hS (lv_sub hl [1, 0] rfl) hf
  refine lv_aload_n hx hb dX5_begin_0 rfl (lv_at hl 0 rfl) ?_
  refine lv_iload_n hx hb dX5_begin_1 rfl (lv_at hl 1 rfl) ?_
  refine va_put (v := .int v1) (ty := .int) (C := RX5) (T := TX5) (N := 3) hx hb hw bfX50 tyX5 tyX5_ok nmX5 hown hK hP (wX_D hD) hS (40 + k) (gx_op E g a k hk) rfl 1 (by decide) (hw _ bw32) (fun _ h9 => h9) rfl (by decide +kernel) rfl rfl (Nat.le_of_ble_eq_true rfl) dX5_begin_2 (fun H locs hP _ hS => ?_)
  have hP := xP_eq (sx_og E g a k hk v1) hP
  refine lv_iconst (v := 0) hx hb dX5_begin_5 (by decide) ?_
  refine lv_istore_n (lv' := [(2, .int 0), (0, .ref (E.2.1 (40 + k))), (1, .int v1)]) hx hb dX5_begin_6 rfl hl (by decide) rfl (fun ls hl => ?_)
  exact B7 fu (upd g (15 + k) v1) a 0 _ _ _ hP hS (lv_sub hl [1, 0] rfl) hf
def t_X5_answerAt (k : Nat) (g : xG) (a : xA) (v1 : Int32) : Int32 := (atF 32 (a (47 + k)) v1)
set_option maxRecDepth 100000 in
set_option maxHeartbeats 40000000 in
theorem c_X5_answerAt (l : Launch) (E : xE) (k : Nat) (hk : k < 7) (g : xG) (a : xA) (v1 : Int32) : xM l E yX5_answerAt cX5_answerAt 2 (some .int) 1 21 [.ref (E.2.1 (40 + k)), .int v1] (wX E g a) (xQi E (t_X5_answerAt k g a v1) (wX E g a)) := by
  obtain ⟨res, hres⟩ : ∃ z, z = t_X5_answerAt k g a v1 := ⟨_, rfl⟩
  rw [← hres]
  have hf : _ = res := hres.symm
  unfold t_X5_answerAt at hf
  refine xM_of (by decide) (Nat.le_of_ble_eq_true rfl) ?_
  intro p e s m below meth c A hx hb hr hml hts hown hlocks hA hD hP hK hN hS ls hl
  have hw : ∀ w ∈ BW, w.before _ s = true := fun w h => hts w (List.mem_cons_of_mem _ h)
  have C0 : xCtx E p m c cX5_answerAt 2 s _ RX5 A yX5_answerAt cX5_answerAt 2 (some .int) := ⟨hx, hb, hml, hown, hts, hA, hK, hN⟩
  have hl : lv_has ls 2 [(0, .ref (E.2.1 (40 + k))), (1, .int v1)] := hl
  refine lv_aload_n hx hb dX5_answerAt_0 rfl (lv_at hl 0 rfl) ?_
  refine va_get (C := RX5) (T := TX5) (N := 3) hx hb hw bfX50 hown hK hP (40 + k) (gx_op E g a k hk) rfl 2 (by decide) (hw _ bw37) (fun _ h9 => h9) rfl dX5_answerAt_1 ?_
  refine lv_iload_n hx hb dX5_answerAt_4 rfl (lv_at hl 1 rfl) ?_
  refine xci (xRunN (rest := []) (As := [.ref (E.2.1 (47 + k)), .int v1]) (k := 2) C0 (c_at l E (wX E g a) (47 + k) v1 (gx_oa E g a k hk) (Nat.le_of_ble_eq_true rfl)) bw9 nw12 bw13 bw12 hd_X11_at ⟨Nat.le_of_ble_eq_true rfl, Nat.le_of_ble_eq_true rfl⟩ hP (wX_D hD) hS rfl hl.1 rfl (Nat.le_of_ble_eq_true rfl) dX5_answerAt_5 ⟨Nat.zero_le _, Nat.zero_le _⟩) hS (fun H locs hP hS => ?_)
  exact xi_retS (fr := (fun r => r)) (fw := (fun r => wX E g a)) hx hb hr hlocks hf hP hS dX5_answerAt_8
def f_X5_wholeCode_9 (k : Nat) (g : xG) (a : xA) : Nat → Int64 → Int32 → Option (Int64)
  | 0, _, _ => none
  | n + 1, x1, x3 => (if x3 < 0 then some x1 else f_X5_wholeCode_9 k g a n ((x1 * (((g 0) : Int32).toInt64)) + (((t_X5_answerAt k g a x3) : Int32).toInt64)) (x3 + (-1)))
theorem e_X5_wholeCode_9 (k : Nat) (g : xG) (a : xA) (n : Nat) (x1 : Int64) (x3 : Int32) : f_X5_wholeCode_9 k g a (n + 1) x1 x3 = (if x3 < 0 then some x1 else f_X5_wholeCode_9 k g a n ((x1 * (((g 0) : Int32).toInt64)) + (((t_X5_answerAt k g a x3) : Int32).toInt64)) (x3 + (-1))) := rfl
def f_X5_wholeCode (k : Nat) (g : xG) (a : xA) : Option (Int64) := f_X5_wholeCode_9 k g a fu 0 ((t_X5_points k g a) - 1)
set_option maxRecDepth 100000 in
set_option maxHeartbeats 40000000 in
theorem c_X5_wholeCode (l : Launch) (E : xE) (k : Nat) (hk : k < 7) (g : xG) (a : xA) {res : Int64} (hf : f_X5_wholeCode k g a = some res) : xM l E yX5_wholeCode cX5_wholeCode 4 (some .long) 3 62 [.ref (E.2.1 (40 + k))] (wX E g a) (xQl E res (wX E g a)) := by
  unfold f_X5_wholeCode at hf
  refine xM_of (by decide) (Nat.le_of_ble_eq_true rfl) ?_
  intro p e s m below meth c A hx hb hr hml hts hown hlocks hA hD hP hK hN hS ls hl
  have hw : ∀ w ∈ BW, w.before _ s = true := fun w h => hts w (List.mem_cons_of_mem _ h)
  have C0 : xCtx E p m c cX5_wholeCode 4 s _ RX5 A yX5_wholeCode cX5_wholeCode 4 (some .long) := ⟨hx, hb, hml, hown, hts, hA, hK, hN⟩
  have hl : lv_has ls 4 [(0, .ref (E.2.1 (40 + k)))] := hl
  have B9 : ∀ (n : Nat) (x1 : Int64) (x3 : Int32) (H : Heap) (locs : List Loc) (ls : Array Slot), va_P E.1 vwCl (wX E g a) H → va_S A s.heap H locs → lv_has ls 4 [(0, .ref (E.2.1 (40 + k))), (1, .long x1), (3, .int x3)] → f_X5_wholeCode_9 k g a n x1 x3 = some res → W p l e ({ frames := 3, cells := 0, slots := 0, locals := 62 }) s m ([.ref (E.2.1 (40 + k))] : List Value).toArray below meth c H locs 0 0 (MQ below ((xQl E res (wX E g a)) A) ([.ref (E.2.1 (40 + k))] : List Value).toArray s 0 0 A) (F0 m 9 ls []) := by
    intro n
    induction n with
    | zero => intro x1 x3 H locs ls hP hS hl hf; exact absurd (show (none : Option (Int64)) = some res from hf) (by intro h; cases h)
    | succ n ih =>
      intro x1 x3 H locs ls hP hS hl hf
      replace hf := (e_X5_wholeCode_9 k g a n x1 x3).symm.trans hf
      refine lv_iload_n hx hb dX5_wholeCode_9 rfl (lv_at hl 2 rfl) ?_
      refine lv_if_lt (tgt := 37) hx hb dX5_wholeCode_10 (by decide) (fun c1 => ?_) (fun c1 => ?_)
      · replace hf := (if_pos c1).symm.trans hf
        refine lv_lload_n hx hb dX5_wholeCode_37 rfl (lv_at hl 1 rfl) ?_
        exact xl_retS (fr := (fun r => r)) (fw := (fun r => wX E g a)) hx hb hr hlocks (Option.some.inj hf) hP hS dX5_wholeCode_38
      · replace hf := (if_neg c1).symm.trans hf
        refine lv_lload_n hx hb dX5_wholeCode_13 rfl (lv_at hl 1 rfl) ?_
        refine lv_aload_n hx hb dX5_wholeCode_14 rfl (lv_at hl 0 rfl) ?_
        refine va_get (C := RX5) (T := TX5) (N := 3) hx hb hw bfX50 hown hK hP (40 + k) (gx_op E g a k hk) rfl 0 (by decide) (hw _ bw35) (fun _ h9 => h9) rfl dX5_wholeCode_15 ?_
        refine va_get (C := RX4) (T := TX4) (N := 3) hx hb hw bfX40 hown hK hP 1 (gx_1 E g a) rfl 0 (by decide) (hw _ bw36) (fun _ h9 => h9) rfl dX5_wholeCode_18 ?_
        refine lv_i2l (v := (((g 0) : Int32).toInt64)) hx hb dX5_wholeCode_21 rfl ?_
        refine lv_lmul hx hb dX5_wholeCode_22 ?_
        refine lv_aload_n hx hb dX5_wholeCode_23 rfl (lv_at hl 0 rfl) ?_
        refine lv_iload_n hx hb dX5_wholeCode_24 rfl (lv_at hl 2 rfl) ?_
        refine xci (xRunV (rest := [.long (x1 * (((g 0) : Int32).toInt64))]) (As := [.int x3]) (C := RX5) (k := 1) C0 (c_X5_answerAt l E k hk g a x3) bw289 bw291 bw44 bw292 bw293 hd_X5_answerAt ⟨Nat.le_of_ble_eq_true rfl, Nat.le_of_ble_eq_true rfl⟩ hP (wX_D hD) hS (va_recv hK hP (ci := 5) rfl (gx_op E g a k hk)) rfl hl.1 rfl (Nat.le_of_ble_eq_true rfl) dX5_wholeCode_25 ⟨Nat.zero_le _, Nat.zero_le _⟩) hS (fun H locs hP hS => ?_)
        refine lv_i2l (v := (((t_X5_answerAt k g a x3) : Int32).toInt64)) hx hb dX5_wholeCode_28 rfl ?_
        refine lv_ladd hx hb dX5_wholeCode_29 ?_
        refine lv_lstore_n (lv' := [(1, .long ((x1 * (((g 0) : Int32).toInt64)) + (((t_X5_answerAt k g a x3) : Int32).toInt64))), (0, .ref (E.2.1 (40 + k))), (3, .int x3)]) hx hb dX5_wholeCode_30 rfl hl (by decide) rfl (fun ls hl => ?_)
        refine lv_iinc (v := (x3 + (-1))) (lv' := [(3, .int (x3 + (-1))), (1, .long ((x1 * (((g 0) : Int32).toInt64)) + (((t_X5_answerAt k g a x3) : Int32).toInt64))), (0, .ref (E.2.1 (40 + k)))]) hx hb dX5_wholeCode_31 hl (k := 2) rfl rfl (by decide) rfl (fun ls hl => ?_)
        refine lv_goto (tgt := 9) hx hb dX5_wholeCode_34 (by decide) ?_
        exact ih ((x1 * (((g 0) : Int32).toInt64)) + (((t_X5_answerAt k g a x3) : Int32).toInt64)) (x3 + (-1)) _ _ _ hP hS (lv_sub hl [2, 1, 0] rfl) hf
  refine lv_lconst (v := 0) hx hb dX5_wholeCode_0 (by decide) ?_
  refine lv_lstore_n (lv' := [(1, .long 0), (0, .ref (E.2.1 (40 + k)))]) hx hb dX5_wholeCode_1 rfl hl (by decide) rfl (fun ls hl => ?_)
  refine lv_aload_n hx hb dX5_wholeCode_2 rfl (lv_at hl 1 rfl) ?_
  refine xci (xRunV (rest := []) (As := []) (C := RX5) (k := 0) C0 (c_X5_points l E k hk g a) bw278 bw281 bw44 bw282 bw283 hd_X5_points ⟨Nat.le_of_ble_eq_true rfl, Nat.le_of_ble_eq_true rfl⟩ hP (wX_D hD) hS (va_recv hK hP (ci := 5) rfl (gx_op E g a k hk)) rfl hl.1 rfl (Nat.le_of_ble_eq_true rfl) dX5_wholeCode_3 ⟨Nat.zero_le _, Nat.zero_le _⟩) hS (fun H locs hP hS => ?_)
  refine lv_iconst (v := 1) hx hb dX5_wholeCode_6 (by decide) ?_
  refine lv_isub hx hb dX5_wholeCode_7 ?_
  refine lv_istore_n (lv' := [(3, .int ((t_X5_points k g a) - 1)), (1, .long 0), (0, .ref (E.2.1 (40 + k)))]) hx hb dX5_wholeCode_8 rfl hl (by decide) rfl (fun ls hl => ?_)
  exact B9 fu 0 ((t_X5_points k g a) - 1) _ _ _ hP hS (lv_sub hl [2, 1, 0] rfl) hf
def f_X3_firstConstant_23 (K10 : xG → xA → Int32 → Option (Int64 × xG × xA)) : Nat → xG → xA → Int32 → Int32 → Option (Int64 × xG × xA)
  | 0, _, _, _, _ => none
  | n + 1, g, a, x1, x2 => (if (g 0) ≤ x2 then Option.bind (f_X3_triedKeepsAll g a) (fun u5 => (if u5.1 = 0 then K10 u5.2.1 u5.2.2 (x1 + 1) else Option.bind (f_X5_wholeCode 6 u5.2.1 u5.2.2) (fun u8 => some (u8, u5.2.1, u5.2.2)))) else f_X3_firstConstant_23 K10 n g (t_X5_setAnswer 6 g a x2 x1) x1 (x2 + 1))
theorem e_X3_firstConstant_23 (K10 : xG → xA → Int32 → Option (Int64 × xG × xA)) (n : Nat) (g : xG) (a : xA) (x1 : Int32) (x2 : Int32) : f_X3_firstConstant_23 K10 (n + 1) g a x1 x2 = (if (g 0) ≤ x2 then Option.bind (f_X3_triedKeepsAll g a) (fun u5 => (if u5.1 = 0 then K10 u5.2.1 u5.2.2 (x1 + 1) else Option.bind (f_X5_wholeCode 6 u5.2.1 u5.2.2) (fun u8 => some (u8, u5.2.1, u5.2.2)))) else f_X3_firstConstant_23 K10 n g (t_X5_setAnswer 6 g a x2 x1) x1 (x2 + 1)) := rfl
def f_X3_firstConstant_10 : Nat → xG → xA → Int32 → Option (Int64 × xG × xA)
  | 0, _, _, _ => none
  | n + 1, g, a, x1 => (if (g 0) ≤ x1 then some ((-1), g, a) else f_X3_firstConstant_23 (f_X3_firstConstant_10 n) fu g a x1 0)
theorem e_X3_firstConstant_10 (n : Nat) (g : xG) (a : xA) (x1 : Int32) : f_X3_firstConstant_10 (n + 1) g a x1 = (if (g 0) ≤ x1 then some ((-1), g, a) else f_X3_firstConstant_23 (f_X3_firstConstant_10 n) fu g a x1 0) := rfl
def f_X3_firstConstant (g : xG) (a : xA) : Option (Int64 × xG × xA) := Option.bind (f_X5_begin 6 g a 1) (fun u1 => f_X3_firstConstant_10 fu u1.1 u1.2 0)
set_option maxRecDepth 100000 in
set_option maxHeartbeats 40000000 in
theorem c_X3_firstConstant (l : Launch) (E : xE) (g : xG) (a : xA) {res : Int64 × xG × xA} (hf : f_X3_firstConstant g a = some res) : xM l E yX3_firstConstant cX3_firstConstant 3 (some .long) 6 136 [.ref (E.2.1 13)] (wX E g a) (xQl E res.1 (wX E res.2.1 res.2.2)) := by
  unfold f_X3_firstConstant at hf
  refine xM_of (by decide) (Nat.le_of_ble_eq_true rfl) ?_
  intro p e s m below meth c A hx hb hr hml hts hown hlocks hA hD hP hK hN hS ls hl
  have hw : ∀ w ∈ BW, w.before _ s = true := fun w h => hts w (List.mem_cons_of_mem _ h)
  have C0 : xCtx E p m c cX3_firstConstant 3 s _ RX3 A yX3_firstConstant cX3_firstConstant 3 (some .long) := ⟨hx, hb, hml, hown, hts, hA, hK, hN⟩
  have hl : lv_has ls 3 [(0, .ref (E.2.1 13))] := hl
  have B23 : ∀ (K10 : xG → xA → Int32 → Option (Int64 × xG × xA)) (hK10 : ∀ (g : xG) (a : xA) (x1 : Int32) (H : Heap) (locs : List Loc) (ls : Array Slot), va_P E.1 vwCl (wX E g a) H → va_S A s.heap H locs → lv_has ls 3 [(0, .ref (E.2.1 13)), (1, .int x1)] → K10 g a x1 = some res → W p l e ({ frames := 6, cells := 0, slots := 0, locals := 136 }) s m ([.ref (E.2.1 13)] : List Value).toArray below meth c H locs 0 0 (MQ below ((xQl E res.1 (wX E res.2.1 res.2.2)) A) ([.ref (E.2.1 13)] : List Value).toArray s 0 0 A) (F0 m 10 ls [])) (n : Nat) (g : xG) (a : xA) (x1 : Int32) (x2 : Int32) (H : Heap) (locs : List Loc) (ls : Array Slot), va_P E.1 vwCl (wX E g a) H → va_S A s.heap H locs → lv_has ls 3 [(0, .ref (E.2.1 13)), (1, .int x1), (2, .int x2)] → f_X3_firstConstant_23 K10 n g a x1 x2 = some res → W p l e ({ frames := 6, cells := 0, slots := 0, locals := 136 }) s m ([.ref (E.2.1 13)] : List Value).toArray below meth c H locs 0 0 (MQ below ((xQl E res.1 (wX E res.2.1 res.2.2)) A) ([.ref (E.2.1 13)] : List Value).toArray s 0 0 A) (F0 m 23 ls []) := by
    intro K10 hK10 n
    induction n with
    | zero => intro g a x1 x2 H locs ls hP hS hl hf; exact absurd (show (none : Option (Int64 × xG × xA)) = some res from hf) (by intro h; cases h)
    | succ n ih =>
      intro g a x1 x2 H locs ls hP hS hl hf
      replace hf := (e_X3_firstConstant_23 K10 n g a x1 x2).symm.trans hf
      refine lv_iload_n hx hb dX3_firstConstant_23 rfl (lv_at hl 2 rfl) ?_
      refine lv_aload_n hx hb dX3_firstConstant_24 rfl (lv_at hl 0 rfl) ?_
      refine va_get (C := RX3) (T := TX3) (N := 5) hx hb hw bfX30 hown hK hP 13 (gx_13 E g a) rfl 0 (by decide) (hw _ bw258) (fun _ h9 => h9) rfl dX3_firstConstant_25 ?_
      refine va_get (C := RX4) (T := TX4) (N := 3) hx hb hw bfX40 hown hK hP 1 (gx_1 E g a) rfl 0 (by decide) (hw _ bw294) (fun _ h9 => h9) rfl dX3_firstConstant_28 ?_
      refine lv_icmp_ge (tgt := 49) hx hb dX3_firstConstant_31 (by decide) (fun c4 => ?_) (fun c4 => ?_)
      · replace hf := (if_pos c4).symm.trans hf
        refine lv_aload_n hx hb dX3_firstConstant_49 rfl (lv_at hl 0 rfl) ?_
        obtain ⟨u5, e6, hf⟩ := bd_some hf
        refine xci (xRunV (rest := []) (As := []) (C := RX3) (k := 0) C0 (c_X3_triedKeepsAll l E g a e6) bw277 bw300 bw303 bw301 bw302 hd_X3_triedKeepsAll ⟨Nat.le_of_ble_eq_true rfl, Nat.le_of_ble_eq_true rfl⟩ hP (wX_D hD) hS (va_recv hK hP (ci := 3) rfl (gx_13 E g a)) rfl hl.1 rfl (Nat.le_of_ble_eq_true rfl) dX3_firstConstant_50 ⟨Nat.zero_le _, Nat.zero_le _⟩) hS (fun H locs hP hS => ?_)
        refine lv_if_eq (tgt := 64) hx hb dX3_firstConstant_53 (by decide) (fun c7 => ?_) (fun c7 => ?_)
        · replace hf := (if_pos c7).symm.trans hf
          refine lv_iinc (v := (x1 + 1)) (lv' := [(1, .int (x1 + 1)), (0, .ref (E.2.1 13)), (2, .int x2)]) hx hb dX3_firstConstant_64 hl (k := 1) rfl rfl (by decide) rfl (fun ls hl => ?_)
          refine lv_goto (tgt := 10) hx hb dX3_firstConstant_67 (by decide) ?_
          exact hK10 u5.2.1 u5.2.2 (x1 + 1) _ _ _ hP hS (lv_sub hl [1, 0] rfl) hf
        · replace hf := (if_neg c7).symm.trans hf
          refine lv_aload_n hx hb dX3_firstConstant_56 rfl (lv_at hl 0 rfl) ?_
          refine va_get (C := RX3) (T := TX3) (N := 5) hx hb hw bfX30 hown hK hP 13 (gx_13 E u5.2.1 u5.2.2) rfl 4 (by decide) (hw _ bw267) (fun _ h9 => h9) rfl dX3_firstConstant_57 ?_
          obtain ⟨u8, e9, hf⟩ := bd_some hf
          refine xcl (xRunV (rest := []) (As := []) (C := RX5) (k := 0) C0 (c_X5_wholeCode l E 6 (by decide) u5.2.1 u5.2.2 e9) bw290 bw304 bw44 bw305 bw306 hd_X5_wholeCode ⟨Nat.le_of_ble_eq_true rfl, Nat.le_of_ble_eq_true rfl⟩ hP (wX_D hD) hS (va_recv hK hP (ci := 5) rfl (gx_46 E u5.2.1 u5.2.2)) rfl hl.1 rfl (Nat.le_of_ble_eq_true rfl) dX3_firstConstant_60 ⟨Nat.zero_le _, Nat.zero_le _⟩) hS (fun H locs hP hS => ?_)
          exact xl_retS (fr := (fun r => r.1)) (fw := (fun r => wX E r.2.1 r.2.2)) hx hb hr hlocks (Option.some.inj hf) hP hS dX3_firstConstant_63
      · replace hf := (if_neg c4).symm.trans hf
        refine lv_aload_n hx hb dX3_firstConstant_34 rfl (lv_at hl 0 rfl) ?_
        refine va_get (C := RX3) (T := TX3) (N := 5) hx hb hw bfX30 hown hK hP 13 (gx_13 E g a) rfl 4 (by decide) (hw _ bw267) (fun _ h9 => h9) rfl dX3_firstConstant_35 ?_
        refine lv_iload_n hx hb dX3_firstConstant_38 rfl (lv_at hl 2 rfl) ?_
        refine lv_iload_n hx hb dX3_firstConstant_39 rfl (lv_at hl 1 rfl) ?_
        refine xcv (xRunV (rest := []) (As := [.int x2, .int x1]) (C := RX5) (k := 2) C0 (c_X5_setAnswer l E 6 (by decide) g a x2 x1) bw280 bw299 bw44 bw286 bw287 hd_X5_setAnswer ⟨Nat.le_of_ble_eq_true rfl, Nat.le_of_ble_eq_true rfl⟩ hP (wX_D hD) hS (va_recv hK hP (ci := 5) rfl (gx_46 E g a)) rfl hl.1 rfl (Nat.le_of_ble_eq_true rfl) dX3_firstConstant_40 ⟨Nat.zero_le _, Nat.zero_le _⟩) hS (fun H locs hP hS => ?_)
        refine lv_iinc (v := (x2 + 1)) (lv' := [(2, .int (x2 + 1)), (0, .ref (E.2.1 13)), (1, .int x1)]) hx hb dX3_firstConstant_43 hl (k := 2) rfl rfl (by decide) rfl (fun ls hl => ?_)
        refine lv_goto (tgt := 23) hx hb dX3_firstConstant_46 (by decide) ?_
        exact ih g (t_X5_setAnswer 6 g a x2 x1) x1 (x2 + 1) _ _ _ hP hS (lv_sub hl [1, 2, 0] rfl) hf
  have B10 : ∀ (n : Nat) (g : xG) (a : xA) (x1 : Int32) (H : Heap) (locs : List Loc) (ls : Array Slot), va_P E.1 vwCl (wX E g a) H → va_S A s.heap H locs → lv_has ls 3 [(0, .ref (E.2.1 13)), (1, .int x1)] → f_X3_firstConstant_10 n g a x1 = some res → W p l e ({ frames := 6, cells := 0, slots := 0, locals := 136 }) s m ([.ref (E.2.1 13)] : List Value).toArray below meth c H locs 0 0 (MQ below ((xQl E res.1 (wX E res.2.1 res.2.2)) A) ([.ref (E.2.1 13)] : List Value).toArray s 0 0 A) (F0 m 10 ls []) := by
    intro n
    induction n with
    | zero => intro g a x1 H locs ls hP hS hl hf; exact absurd (show (none : Option (Int64 × xG × xA)) = some res from hf) (by intro h; cases h)
    | succ n ih =>
      intro g a x1 H locs ls hP hS hl hf
      replace hf := (e_X3_firstConstant_10 n g a x1).symm.trans hf
      refine lv_iload_n hx hb dX3_firstConstant_10 rfl (lv_at hl 1 rfl) ?_
      refine lv_aload_n hx hb dX3_firstConstant_11 rfl (lv_at hl 0 rfl) ?_
      refine va_get (C := RX3) (T := TX3) (N := 5) hx hb hw bfX30 hown hK hP 13 (gx_13 E g a) rfl 0 (by decide) (hw _ bw258) (fun _ h9 => h9) rfl dX3_firstConstant_12 ?_
      refine va_get (C := RX4) (T := TX4) (N := 3) hx hb hw bfX40 hown hK hP 1 (gx_1 E g a) rfl 0 (by decide) (hw _ bw294) (fun _ h9 => h9) rfl dX3_firstConstant_15 ?_
      refine lv_icmp_ge (tgt := 70) hx hb dX3_firstConstant_18 (by decide) (fun c3 => ?_) (fun c3 => ?_)
      · replace hf := (if_pos c3).symm.trans hf
        refine lv_ldc2 hx hb hown (hw _ bw295) dX3_firstConstant_70 ?_
        exact xl_retS (fr := (fun r => r.1)) (fw := (fun r => wX E r.2.1 r.2.2)) hx hb hr hlocks (Option.some.inj hf) hP hS dX3_firstConstant_73
      · replace hf := (if_neg c3).symm.trans hf
        refine lv_iconst (v := 0) hx hb dX3_firstConstant_21 (by decide) ?_
        refine lv_istore_n (lv' := [(2, .int 0), (0, .ref (E.2.1 13)), (1, .int x1)]) hx hb dX3_firstConstant_22 rfl hl (by decide) rfl (fun ls hl => ?_)
        exact B23 (f_X3_firstConstant_10 n) ih fu g a x1 0 _ _ _ hP hS (lv_sub hl [1, 2, 0] rfl) hf
  refine lv_aload_n hx hb dX3_firstConstant_0 rfl (lv_at hl 0 rfl) ?_
  refine va_get (C := RX3) (T := TX3) (N := 5) hx hb hw bfX30 hown hK hP 13 (gx_13 E g a) rfl 4 (by decide) (hw _ bw267) (fun _ h9 => h9) rfl dX3_firstConstant_1 ?_
  refine lv_iconst (v := 1) hx hb dX3_firstConstant_4 (by decide) ?_
  obtain ⟨u1, e2, hf⟩ := bd_some hf
  refine xcv (xRunV (rest := []) (As := [.int 1]) (C := RX5) (k := 1) C0 (c_X5_begin l E 6 (by decide) g a 1 e2) bw288 bw296 bw44 bw297 bw298 hd_X5_begin ⟨Nat.le_of_ble_eq_true rfl, Nat.le_of_ble_eq_true rfl⟩ hP (wX_D hD) hS (va_recv hK hP (ci := 5) rfl (gx_46 E g a)) rfl hl.1 rfl (Nat.le_of_ble_eq_true rfl) dX3_firstConstant_5 ⟨Nat.zero_le _, Nat.zero_le _⟩) hS (fun H locs hP hS => ?_)
  refine lv_iconst (v := 0) hx hb dX3_firstConstant_8 (by decide) ?_
  refine lv_istore_n (lv' := [(1, .int 0), (0, .ref (E.2.1 13))]) hx hb dX3_firstConstant_9 rfl hl (by decide) rfl (fun ls hl => ?_)
  exact B10 fu u1.1 u1.2 0 _ _ _ hP hS (lv_sub hl [1, 0] rfl) hf
def t_X5_pointOf (k : Nat) (g : xG) (a : xA) (v1 : Int32) (v2 : Int32) (v3 : Int32) : Int32 := (if (g (15 + k)) ≤ 1 then (if (g (15 + k)) ≤ 2 then v1 else (v1 + ((t_X4_power g a 2) * v3))) else (if (g (15 + k)) ≤ 2 then (v1 + ((t_X4_power g a 1) * v2)) else ((v1 + ((t_X4_power g a 1) * v2)) + ((t_X4_power g a 2) * v3))))
set_option maxRecDepth 100000 in
set_option maxHeartbeats 40000000 in
theorem c_X5_pointOf (l : Launch) (E : xE) (k : Nat) (hk : k < 7) (g : xG) (a : xA) (v1 : Int32) (v2 : Int32) (v3 : Int32) : xM l E yX5_pointOf cX5_pointOf 5 (some .int) 2 42 [.ref (E.2.1 (40 + k)), .int v1, .int v2, .int v3] (wX E g a) (xQi E (t_X5_pointOf k g a v1 v2 v3) (wX E g a)) := by
  obtain ⟨res, hres⟩ : ∃ z, z = t_X5_pointOf k g a v1 v2 v3 := ⟨_, rfl⟩
  rw [← hres]
  have hf : _ = res := hres.symm
  unfold t_X5_pointOf at hf
  refine xM_of (by decide) (Nat.le_of_ble_eq_true rfl) ?_
  intro p e s m below meth c A hx hb hr hml hts hown hlocks hA hD hP hK hN hS ls hl
  have hw : ∀ w ∈ BW, w.before _ s = true := fun w h => hts w (List.mem_cons_of_mem _ h)
  have C0 : xCtx E p m c cX5_pointOf 5 s _ RX5 A yX5_pointOf cX5_pointOf 5 (some .int) := ⟨hx, hb, hml, hown, hts, hA, hK, hN⟩
  have hl : lv_has ls 5 [(0, .ref (E.2.1 (40 + k))), (1, .int v1), (2, .int v2), (3, .int v3)] := hl
  refine lv_iload_n hx hb dX5_pointOf_0 rfl (lv_at hl 1 rfl) ?_
  refine lv_istore (lv' := [(4, .int v1), (0, .ref (E.2.1 (40 + k))), (1, .int v1), (2, .int v2), (3, .int v3)]) hx hb dX5_pointOf_1 hl (by decide) rfl (fun ls hl => ?_)
  refine lv_aload_n hx hb dX5_pointOf_3 rfl (lv_at hl 1 rfl) ?_
  refine va_get (C := RX5) (T := TX5) (N := 3) hx hb hw bfX50 hown hK hP (40 + k) (gx_op E g a k hk) rfl 1 (by decide) (hw _ bw32) (fun _ h9 => h9) rfl dX5_pointOf_4 ?_
  refine lv_iconst (v := 1) hx hb dX5_pointOf_7 (by decide) ?_
  refine lv_icmp_le (tgt := 26) hx hb dX5_pointOf_8 (by decide) (fun c1 => ?_) (fun c1 => ?_)
  · replace hf := (if_pos c1).symm.trans hf
    refine lv_aload_n hx hb dX5_pointOf_26 rfl (lv_at hl 1 rfl) ?_
    refine va_get (C := RX5) (T := TX5) (N := 3) hx hb hw bfX50 hown hK hP (40 + k) (gx_op E g a k hk) rfl 1 (by decide) (hw _ bw32) (fun _ h9 => h9) rfl dX5_pointOf_27 ?_
    refine lv_iconst (v := 2) hx hb dX5_pointOf_30 (by decide) ?_
    refine lv_icmp_le (tgt := 49) hx hb dX5_pointOf_31 (by decide) (fun c2 => ?_) (fun c2 => ?_)
    · replace hf := (if_pos c2).symm.trans hf
      refine lv_iload hx hb dX5_pointOf_49 (lv_at hl 0 rfl) ?_
      exact xi_retS (fr := (fun r => r)) (fw := (fun r => wX E g a)) hx hb hr hlocks hf hP hS dX5_pointOf_51
    · replace hf := (if_neg c2).symm.trans hf
      refine lv_iload hx hb dX5_pointOf_34 (lv_at hl 0 rfl) ?_
      refine lv_aload_n hx hb dX5_pointOf_36 rfl (lv_at hl 1 rfl) ?_
      refine va_get (C := RX5) (T := TX5) (N := 3) hx hb hw bfX50 hown hK hP (40 + k) (gx_op E g a k hk) rfl 0 (by decide) (hw _ bw35) (fun _ h9 => h9) rfl dX5_pointOf_37 ?_
      refine lv_iconst (v := 2) hx hb dX5_pointOf_40 (by decide) ?_
      refine xci (xRunV (rest := [.int v1]) (As := [.int 2]) (C := RX4) (k := 1) C0 (c_X4_power l E g a 2) bw55 bw279 bw22 bw58 bw59 hd_X4_power ⟨Nat.le_of_ble_eq_true rfl, Nat.le_of_ble_eq_true rfl⟩ hP (wX_D hD) hS (va_recv hK hP (ci := 4) rfl (gx_1 E g a)) rfl hl.1 rfl (Nat.le_of_ble_eq_true rfl) dX5_pointOf_41 ⟨Nat.zero_le _, Nat.zero_le _⟩) hS (fun H locs hP hS => ?_)
      refine lv_iload_n hx hb dX5_pointOf_44 rfl (lv_at hl 4 rfl) ?_
      refine lv_imul hx hb dX5_pointOf_45 ?_
      refine lv_iadd hx hb dX5_pointOf_46 ?_
      refine lv_istore (lv' := [(4, .int (v1 + ((t_X4_power g a 2) * v3))), (0, .ref (E.2.1 (40 + k))), (1, .int v1), (2, .int v2), (3, .int v3)]) hx hb dX5_pointOf_47 hl (by decide) rfl (fun ls hl => ?_)
      refine lv_iload hx hb dX5_pointOf_49 (lv_at hl 0 rfl) ?_
      exact xi_retS (fr := (fun r => r)) (fw := (fun r => wX E g a)) hx hb hr hlocks hf hP hS dX5_pointOf_51
  · replace hf := (if_neg c1).symm.trans hf
    refine lv_iload hx hb dX5_pointOf_11 (lv_at hl 0 rfl) ?_
    refine lv_aload_n hx hb dX5_pointOf_13 rfl (lv_at hl 1 rfl) ?_
    refine va_get (C := RX5) (T := TX5) (N := 3) hx hb hw bfX50 hown hK hP (40 + k) (gx_op E g a k hk) rfl 0 (by decide) (hw _ bw35) (fun _ h9 => h9) rfl dX5_pointOf_14 ?_
    refine lv_iconst (v := 1) hx hb dX5_pointOf_17 (by decide) ?_
    refine xci (xRunV (rest := [.int v1]) (As := [.int 1]) (C := RX4) (k := 1) C0 (c_X4_power l E g a 1) bw55 bw279 bw22 bw58 bw59 hd_X4_power ⟨Nat.le_of_ble_eq_true rfl, Nat.le_of_ble_eq_true rfl⟩ hP (wX_D hD) hS (va_recv hK hP (ci := 4) rfl (gx_1 E g a)) rfl hl.1 rfl (Nat.le_of_ble_eq_true rfl) dX5_pointOf_18 ⟨Nat.zero_le _, Nat.zero_le _⟩) hS (fun H locs hP hS => ?_)
    refine lv_iload_n hx hb dX5_pointOf_21 rfl (lv_at hl 3 rfl) ?_
    refine lv_imul hx hb dX5_pointOf_22 ?_
    refine lv_iadd hx hb dX5_pointOf_23 ?_
    refine lv_istore (lv' := [(4, .int (v1 + ((t_X4_power g a 1) * v2))), (0, .ref (E.2.1 (40 + k))), (1, .int v1), (2, .int v2), (3, .int v3)]) hx hb dX5_pointOf_24 hl (by decide) rfl (fun ls hl => ?_)
    refine lv_aload_n hx hb dX5_pointOf_26 rfl (lv_at hl 1 rfl) ?_
    refine va_get (C := RX5) (T := TX5) (N := 3) hx hb hw bfX50 hown hK hP (40 + k) (gx_op E g a k hk) rfl 1 (by decide) (hw _ bw32) (fun _ h9 => h9) rfl dX5_pointOf_27 ?_
    refine lv_iconst (v := 2) hx hb dX5_pointOf_30 (by decide) ?_
    refine lv_icmp_le (tgt := 49) hx hb dX5_pointOf_31 (by decide) (fun c3 => ?_) (fun c3 => ?_)
    · replace hf := (if_pos c3).symm.trans hf
      refine lv_iload hx hb dX5_pointOf_49 (lv_at hl 0 rfl) ?_
      exact xi_retS (fr := (fun r => r)) (fw := (fun r => wX E g a)) hx hb hr hlocks hf hP hS dX5_pointOf_51
    · replace hf := (if_neg c3).symm.trans hf
      refine lv_iload hx hb dX5_pointOf_34 (lv_at hl 0 rfl) ?_
      refine lv_aload_n hx hb dX5_pointOf_36 rfl (lv_at hl 1 rfl) ?_
      refine va_get (C := RX5) (T := TX5) (N := 3) hx hb hw bfX50 hown hK hP (40 + k) (gx_op E g a k hk) rfl 0 (by decide) (hw _ bw35) (fun _ h9 => h9) rfl dX5_pointOf_37 ?_
      refine lv_iconst (v := 2) hx hb dX5_pointOf_40 (by decide) ?_
      refine xci (xRunV (rest := [.int (v1 + ((t_X4_power g a 1) * v2))]) (As := [.int 2]) (C := RX4) (k := 1) C0 (c_X4_power l E g a 2) bw55 bw279 bw22 bw58 bw59 hd_X4_power ⟨Nat.le_of_ble_eq_true rfl, Nat.le_of_ble_eq_true rfl⟩ hP (wX_D hD) hS (va_recv hK hP (ci := 4) rfl (gx_1 E g a)) rfl hl.1 rfl (Nat.le_of_ble_eq_true rfl) dX5_pointOf_41 ⟨Nat.zero_le _, Nat.zero_le _⟩) hS (fun H locs hP hS => ?_)
      refine lv_iload_n hx hb dX5_pointOf_44 rfl (lv_at hl 4 rfl) ?_
      refine lv_imul hx hb dX5_pointOf_45 ?_
      refine lv_iadd hx hb dX5_pointOf_46 ?_
      refine lv_istore (lv' := [(4, .int ((v1 + ((t_X4_power g a 1) * v2)) + ((t_X4_power g a 2) * v3))), (0, .ref (E.2.1 (40 + k))), (1, .int v1), (2, .int v2), (3, .int v3)]) hx hb dX5_pointOf_47 hl (by decide) rfl (fun ls hl => ?_)
      refine lv_iload hx hb dX5_pointOf_49 (lv_at hl 0 rfl) ?_
      exact xi_retS (fr := (fun r => r)) (fw := (fun r => wX E g a)) hx hb hr hlocks hf hP hS dX5_pointOf_51
def f_X3_trySymmetric_25 (K10 : xG → xA → Int32 → Int32 → Option (xG × xA)) : Nat → xG → xA → Int32 → Int32 → Int32 → Option (xG × xA)
  | 0, _, _, _, _, _ => none
  | n + 1, g, a, x1, x2, x3 => (if (g 0) ≤ x3 then K10 g a x1 (x2 + 1) else f_X3_trySymmetric_25 K10 n g (t_X5_setAnswer 6 g (t_X5_setAnswer 6 g a (t_X5_pointOf 6 g a x2 x3 0) (t_X4_digit g a x1 ((x2 + x3) - 1))) (t_X5_pointOf 6 g (t_X5_setAnswer 6 g a (t_X5_pointOf 6 g a x2 x3 0) (t_X4_digit g a x1 ((x2 + x3) - 1))) x3 x2 0) (t_X4_digit g a x1 ((x2 + x3) - 1))) x1 x2 (x3 + 1))
theorem e_X3_trySymmetric_25 (K10 : xG → xA → Int32 → Int32 → Option (xG × xA)) (n : Nat) (g : xG) (a : xA) (x1 : Int32) (x2 : Int32) (x3 : Int32) : f_X3_trySymmetric_25 K10 (n + 1) g a x1 x2 x3 = (if (g 0) ≤ x3 then K10 g a x1 (x2 + 1) else f_X3_trySymmetric_25 K10 n g (t_X5_setAnswer 6 g (t_X5_setAnswer 6 g a (t_X5_pointOf 6 g a x2 x3 0) (t_X4_digit g a x1 ((x2 + x3) - 1))) (t_X5_pointOf 6 g (t_X5_setAnswer 6 g a (t_X5_pointOf 6 g a x2 x3 0) (t_X4_digit g a x1 ((x2 + x3) - 1))) x3 x2 0) (t_X4_digit g a x1 ((x2 + x3) - 1))) x1 x2 (x3 + 1)) := rfl
def f_X3_trySymmetric_10 : Nat → xG → xA → Int32 → Int32 → Option (xG × xA)
  | 0, _, _, _, _ => none
  | n + 1, g, a, x1, x2 => (if (g 0) ≤ x2 then some (g, a) else f_X3_trySymmetric_25 (f_X3_trySymmetric_10 n) fu g a x1 x2 (x2 + 1))
theorem e_X3_trySymmetric_10 (n : Nat) (g : xG) (a : xA) (x1 : Int32) (x2 : Int32) : f_X3_trySymmetric_10 (n + 1) g a x1 x2 = (if (g 0) ≤ x2 then some (g, a) else f_X3_trySymmetric_25 (f_X3_trySymmetric_10 n) fu g a x1 x2 (x2 + 1)) := rfl
def f_X3_trySymmetric (g : xG) (a : xA) (v1 : Int32) : Option (xG × xA) := Option.bind (f_X5_begin 6 g a 2) (fun u1 => f_X3_trySymmetric_10 fu u1.1 u1.2 v1 0)
set_option maxRecDepth 100000 in
set_option maxHeartbeats 40000000 in
theorem c_X3_trySymmetric (l : Launch) (E : xE) (g : xG) (a : xA) (v1 : Int32) {res : xG × xA} (hf : f_X3_trySymmetric g a v1 = some res) : xM l E yX3_trySymmetric cX3_trySymmetric 5 none 4 84 [.ref (E.2.1 13), .int v1] (wX E g a) (xQv E (wX E res.1 res.2)) := by
  unfold f_X3_trySymmetric at hf
  refine xM_of (by decide) (Nat.le_of_ble_eq_true rfl) ?_
  intro p e s m below meth c A hx hb hr hml hts hown hlocks hA hD hP hK hN hS ls hl
  have hw : ∀ w ∈ BW, w.before _ s = true := fun w h => hts w (List.mem_cons_of_mem _ h)
  have C0 : xCtx E p m c cX3_trySymmetric 5 s _ RX3 A yX3_trySymmetric cX3_trySymmetric 5 none := ⟨hx, hb, hml, hown, hts, hA, hK, hN⟩
  have hl : lv_has ls 5 [(0, .ref (E.2.1 13)), (1, .int v1)] := hl
  have B25 : ∀ (K10 : xG → xA → Int32 → Int32 → Option (xG × xA)) (hK10 : ∀ (g : xG) (a : xA) (x1 : Int32) (x2 : Int32) (H : Heap) (locs : List Loc) (ls : Array Slot), va_P E.1 vwCl (wX E g a) H → va_S A s.heap H locs → lv_has ls 5 [(0, .ref (E.2.1 13)), (1, .int x1), (2, .int x2)] → K10 g a x1 x2 = some res → W p l e ({ frames := 4, cells := 0, slots := 0, locals := 84 }) s m ([.ref (E.2.1 13), .int v1] : List Value).toArray below meth c H locs 0 0 (MQ below ((xQv E (wX E res.1 res.2)) A) ([.ref (E.2.1 13), .int v1] : List Value).toArray s 0 0 A) (F0 m 10 ls [])) (n : Nat) (g : xG) (a : xA) (x1 : Int32) (x2 : Int32) (x3 : Int32) (H : Heap) (locs : List Loc) (ls : Array Slot), va_P E.1 vwCl (wX E g a) H → va_S A s.heap H locs → lv_has ls 5 [(0, .ref (E.2.1 13)), (1, .int x1), (2, .int x2), (3, .int x3)] → f_X3_trySymmetric_25 K10 n g a x1 x2 x3 = some res → W p l e ({ frames := 4, cells := 0, slots := 0, locals := 84 }) s m ([.ref (E.2.1 13), .int v1] : List Value).toArray below meth c H locs 0 0 (MQ below ((xQv E (wX E res.1 res.2)) A) ([.ref (E.2.1 13), .int v1] : List Value).toArray s 0 0 A) (F0 m 25 ls []) := by
    intro K10 hK10 n
    induction n with
    | zero => intro g a x1 x2 x3 H locs ls hP hS hl hf; exact absurd (show (none : Option (xG × xA)) = some res from hf) (by intro h; cases h)
    | succ n ih =>
      intro g a x1 x2 x3 H locs ls hP hS hl hf
      replace hf := (e_X3_trySymmetric_25 K10 n g a x1 x2 x3).symm.trans hf
      refine lv_iload_n hx hb dX3_trySymmetric_25 rfl (lv_at hl 3 rfl) ?_
      refine lv_aload_n hx hb dX3_trySymmetric_26 rfl (lv_at hl 0 rfl) ?_
      refine va_get (C := RX3) (T := TX3) (N := 5) hx hb hw bfX30 hown hK hP 13 (gx_13 E g a) rfl 0 (by decide) (hw _ bw258) (fun _ h9 => h9) rfl dX3_trySymmetric_27 ?_
      refine va_get (C := RX4) (T := TX4) (N := 3) hx hb hw bfX40 hown hK hP 1 (gx_1 E g a) rfl 0 (by decide) (hw _ bw294) (fun _ h9 => h9) rfl dX3_trySymmetric_30 ?_
      refine lv_icmp_ge (tgt := 95) hx hb dX3_trySymmetric_33 (by decide) (fun c4 => ?_) (fun c4 => ?_)
      · replace hf := (if_pos c4).symm.trans hf
        refine lv_iinc (v := (x2 + 1)) (lv' := [(2, .int (x2 + 1)), (0, .ref (E.2.1 13)), (1, .int x1), (3, .int x3)]) hx hb dX3_trySymmetric_95 hl (k := 2) rfl rfl (by decide) rfl (fun ls hl => ?_)
        refine lv_goto (tgt := 10) hx hb dX3_trySymmetric_98 (by decide) ?_
        exact hK10 g a x1 (x2 + 1) _ _ _ hP hS (lv_sub hl [1, 2, 0] rfl) hf
      · replace hf := (if_neg c4).symm.trans hf
        refine lv_aload_n hx hb dX3_trySymmetric_36 rfl (lv_at hl 0 rfl) ?_
        refine va_get (C := RX3) (T := TX3) (N := 5) hx hb hw bfX30 hown hK hP 13 (gx_13 E g a) rfl 0 (by decide) (hw _ bw258) (fun _ h9 => h9) rfl dX3_trySymmetric_37 ?_
        refine lv_iload_n hx hb dX3_trySymmetric_40 rfl (lv_at hl 1 rfl) ?_
        refine lv_iload_n hx hb dX3_trySymmetric_41 rfl (lv_at hl 2 rfl) ?_
        refine lv_iload_n hx hb dX3_trySymmetric_42 rfl (lv_at hl 3 rfl) ?_
        refine lv_iadd hx hb dX3_trySymmetric_43 ?_
        refine lv_iconst (v := 1) hx hb dX3_trySymmetric_44 (by decide) ?_
        refine lv_isub hx hb dX3_trySymmetric_45 ?_
        refine xci (xRunV (rest := []) (As := [.int x1, .int ((x2 + x3) - 1)]) (C := RX4) (k := 2) C0 (c_X4_digit l E g a x1 ((x2 + x3) - 1)) bw174 bw309 bw22 bw199 bw200 hd_X4_digit ⟨Nat.le_of_ble_eq_true rfl, Nat.le_of_ble_eq_true rfl⟩ hP (wX_D hD) hS (va_recv hK hP (ci := 4) rfl (gx_1 E g a)) rfl hl.1 rfl (Nat.le_of_ble_eq_true rfl) dX3_trySymmetric_46 ⟨Nat.zero_le _, Nat.zero_le _⟩) hS (fun H locs hP hS => ?_)
        refine lv_istore (lv' := [(4, .int (t_X4_digit g a x1 ((x2 + x3) - 1))), (0, .ref (E.2.1 13)), (1, .int x1), (2, .int x2), (3, .int x3)]) hx hb dX3_trySymmetric_49 hl (by decide) rfl (fun ls hl => ?_)
        refine lv_aload_n hx hb dX3_trySymmetric_51 rfl (lv_at hl 1 rfl) ?_
        refine va_get (C := RX3) (T := TX3) (N := 5) hx hb hw bfX30 hown hK hP 13 (gx_13 E g a) rfl 4 (by decide) (hw _ bw267) (fun _ h9 => h9) rfl dX3_trySymmetric_52 ?_
        refine lv_aload_n hx hb dX3_trySymmetric_55 rfl (lv_at hl 1 rfl) ?_
        refine va_get (C := RX3) (T := TX3) (N := 5) hx hb hw bfX30 hown hK hP 13 (gx_13 E g a) rfl 4 (by decide) (hw _ bw267) (fun _ h9 => h9) rfl dX3_trySymmetric_56 ?_
        refine lv_iload_n hx hb dX3_trySymmetric_59 rfl (lv_at hl 3 rfl) ?_
        refine lv_iload_n hx hb dX3_trySymmetric_60 rfl (lv_at hl 4 rfl) ?_
        refine lv_iconst (v := 0) hx hb dX3_trySymmetric_61 (by decide) ?_
        refine xci (xRunV (rest := [.ref (E.2.1 46)]) (As := [.int x2, .int x3, .int 0]) (C := RX5) (k := 3) C0 (c_X5_pointOf l E 6 (by decide) g a x2 x3 0) bw308 bw310 bw44 bw311 bw312 hd_X5_pointOf ⟨Nat.le_of_ble_eq_true rfl, Nat.le_of_ble_eq_true rfl⟩ hP (wX_D hD) hS (va_recv hK hP (ci := 5) rfl (gx_46 E g a)) rfl hl.1 rfl (Nat.le_of_ble_eq_true rfl) dX3_trySymmetric_62 ⟨Nat.zero_le _, Nat.zero_le _⟩) hS (fun H locs hP hS => ?_)
        refine lv_iload hx hb dX3_trySymmetric_65 (lv_at hl 0 rfl) ?_
        refine xcv (xRunV (rest := []) (As := [.int (t_X5_pointOf 6 g a x2 x3 0), .int (t_X4_digit g a x1 ((x2 + x3) - 1))]) (C := RX5) (k := 2) C0 (c_X5_setAnswer l E 6 (by decide) g a (t_X5_pointOf 6 g a x2 x3 0) (t_X4_digit g a x1 ((x2 + x3) - 1))) bw280 bw299 bw44 bw286 bw287 hd_X5_setAnswer ⟨Nat.le_of_ble_eq_true rfl, Nat.le_of_ble_eq_true rfl⟩ hP (wX_D hD) hS (va_recv hK hP (ci := 5) rfl (gx_46 E g a)) rfl hl.1 rfl (Nat.le_of_ble_eq_true rfl) dX3_trySymmetric_67 ⟨Nat.zero_le _, Nat.zero_le _⟩) hS (fun H locs hP hS => ?_)
        refine lv_aload_n hx hb dX3_trySymmetric_70 rfl (lv_at hl 1 rfl) ?_
        refine va_get (C := RX3) (T := TX3) (N := 5) hx hb hw bfX30 hown hK hP 13 (gx_13 E g (t_X5_setAnswer 6 g a (t_X5_pointOf 6 g a x2 x3 0) (t_X4_digit g a x1 ((x2 + x3) - 1)))) rfl 4 (by decide) (hw _ bw267) (fun _ h9 => h9) rfl dX3_trySymmetric_71 ?_
        refine lv_aload_n hx hb dX3_trySymmetric_74 rfl (lv_at hl 1 rfl) ?_
        refine va_get (C := RX3) (T := TX3) (N := 5) hx hb hw bfX30 hown hK hP 13 (gx_13 E g (t_X5_setAnswer 6 g a (t_X5_pointOf 6 g a x2 x3 0) (t_X4_digit g a x1 ((x2 + x3) - 1)))) rfl 4 (by decide) (hw _ bw267) (fun _ h9 => h9) rfl dX3_trySymmetric_75 ?_
        refine lv_iload_n hx hb dX3_trySymmetric_78 rfl (lv_at hl 4 rfl) ?_
        refine lv_iload_n hx hb dX3_trySymmetric_79 rfl (lv_at hl 3 rfl) ?_
        refine lv_iconst (v := 0) hx hb dX3_trySymmetric_80 (by decide) ?_
        refine xci (xRunV (rest := [.ref (E.2.1 46)]) (As := [.int x3, .int x2, .int 0]) (C := RX5) (k := 3) C0 (c_X5_pointOf l E 6 (by decide) g (t_X5_setAnswer 6 g a (t_X5_pointOf 6 g a x2 x3 0) (t_X4_digit g a x1 ((x2 + x3) - 1))) x3 x2 0) bw308 bw310 bw44 bw311 bw312 hd_X5_pointOf ⟨Nat.le_of_ble_eq_true rfl, Nat.le_of_ble_eq_true rfl⟩ hP (wX_D hD) hS (va_recv hK hP (ci := 5) rfl (gx_46 E g (t_X5_setAnswer 6 g a (t_X5_pointOf 6 g a x2 x3 0) (t_X4_digit g a x1 ((x2 + x3) - 1))))) rfl hl.1 rfl (Nat.le_of_ble_eq_true rfl) dX3_trySymmetric_81 ⟨Nat.zero_le _, Nat.zero_le _⟩) hS (fun H locs hP hS => ?_)
        refine lv_iload hx hb dX3_trySymmetric_84 (lv_at hl 0 rfl) ?_
        refine xcv (xRunV (rest := []) (As := [.int (t_X5_pointOf 6 g (t_X5_setAnswer 6 g a (t_X5_pointOf 6 g a x2 x3 0) (t_X4_digit g a x1 ((x2 + x3) - 1))) x3 x2 0), .int (t_X4_digit g a x1 ((x2 + x3) - 1))]) (C := RX5) (k := 2) C0 (c_X5_setAnswer l E 6 (by decide) g (t_X5_setAnswer 6 g a (t_X5_pointOf 6 g a x2 x3 0) (t_X4_digit g a x1 ((x2 + x3) - 1))) (t_X5_pointOf 6 g (t_X5_setAnswer 6 g a (t_X5_pointOf 6 g a x2 x3 0) (t_X4_digit g a x1 ((x2 + x3) - 1))) x3 x2 0) (t_X4_digit g a x1 ((x2 + x3) - 1))) bw280 bw299 bw44 bw286 bw287 hd_X5_setAnswer ⟨Nat.le_of_ble_eq_true rfl, Nat.le_of_ble_eq_true rfl⟩ hP (wX_D hD) hS (va_recv hK hP (ci := 5) rfl (gx_46 E g (t_X5_setAnswer 6 g a (t_X5_pointOf 6 g a x2 x3 0) (t_X4_digit g a x1 ((x2 + x3) - 1))))) rfl hl.1 rfl (Nat.le_of_ble_eq_true rfl) dX3_trySymmetric_86 ⟨Nat.zero_le _, Nat.zero_le _⟩) hS (fun H locs hP hS => ?_)
        refine lv_iinc (v := (x3 + 1)) (lv' := [(3, .int (x3 + 1)), (4, .int (t_X4_digit g a x1 ((x2 + x3) - 1))), (0, .ref (E.2.1 13)), (1, .int x1), (2, .int x2)]) hx hb dX3_trySymmetric_89 hl (k := 4) rfl rfl (by decide) rfl (fun ls hl => ?_)
        refine lv_goto (tgt := 25) hx hb dX3_trySymmetric_92 (by decide) ?_
        exact ih g (t_X5_setAnswer 6 g (t_X5_setAnswer 6 g a (t_X5_pointOf 6 g a x2 x3 0) (t_X4_digit g a x1 ((x2 + x3) - 1))) (t_X5_pointOf 6 g (t_X5_setAnswer 6 g a (t_X5_pointOf 6 g a x2 x3 0) (t_X4_digit g a x1 ((x2 + x3) - 1))) x3 x2 0) (t_X4_digit g a x1 ((x2 + x3) - 1))) x1 x2 (x3 + 1) _ _ _ hP hS (lv_sub hl [2, 3, 4, 0] rfl) hf
  have B10 : ∀ (n : Nat) (g : xG) (a : xA) (x1 : Int32) (x2 : Int32) (H : Heap) (locs : List Loc) (ls : Array Slot), va_P E.1 vwCl (wX E g a) H → va_S A s.heap H locs → lv_has ls 5 [(0, .ref (E.2.1 13)), (1, .int x1), (2, .int x2)] → f_X3_trySymmetric_10 n g a x1 x2 = some res → W p l e ({ frames := 4, cells := 0, slots := 0, locals := 84 }) s m ([.ref (E.2.1 13), .int v1] : List Value).toArray below meth c H locs 0 0 (MQ below ((xQv E (wX E res.1 res.2)) A) ([.ref (E.2.1 13), .int v1] : List Value).toArray s 0 0 A) (F0 m 10 ls []) := by
    intro n
    induction n with
    | zero => intro g a x1 x2 H locs ls hP hS hl hf; exact absurd (show (none : Option (xG × xA)) = some res from hf) (by intro h; cases h)
    | succ n ih =>
      intro g a x1 x2 H locs ls hP hS hl hf
      replace hf := (e_X3_trySymmetric_10 n g a x1 x2).symm.trans hf
      refine lv_iload_n hx hb dX3_trySymmetric_10 rfl (lv_at hl 2 rfl) ?_
      refine lv_aload_n hx hb dX3_trySymmetric_11 rfl (lv_at hl 0 rfl) ?_
      refine va_get (C := RX3) (T := TX3) (N := 5) hx hb hw bfX30 hown hK hP 13 (gx_13 E g a) rfl 0 (by decide) (hw _ bw258) (fun _ h9 => h9) rfl dX3_trySymmetric_12 ?_
      refine va_get (C := RX4) (T := TX4) (N := 3) hx hb hw bfX40 hown hK hP 1 (gx_1 E g a) rfl 0 (by decide) (hw _ bw294) (fun _ h9 => h9) rfl dX3_trySymmetric_15 ?_
      refine lv_icmp_ge (tgt := 101) hx hb dX3_trySymmetric_18 (by decide) (fun c3 => ?_) (fun c3 => ?_)
      · replace hf := (if_pos c3).symm.trans hf
        exact xv_retS (fw := (fun r => wX E r.1 r.2)) hx hb hr hlocks (Option.some.inj hf) hP hS dX3_trySymmetric_101
      · replace hf := (if_neg c3).symm.trans hf
        refine lv_iload_n hx hb dX3_trySymmetric_21 rfl (lv_at hl 2 rfl) ?_
        refine lv_iconst (v := 1) hx hb dX3_trySymmetric_22 (by decide) ?_
        refine lv_iadd hx hb dX3_trySymmetric_23 ?_
        refine lv_istore_n (lv' := [(3, .int (x2 + 1)), (0, .ref (E.2.1 13)), (1, .int x1), (2, .int x2)]) hx hb dX3_trySymmetric_24 rfl hl (by decide) rfl (fun ls hl => ?_)
        exact B25 (f_X3_trySymmetric_10 n) ih fu g a x1 x2 (x2 + 1) _ _ _ hP hS (lv_sub hl [1, 2, 3, 0] rfl) hf
  refine lv_aload_n hx hb dX3_trySymmetric_0 rfl (lv_at hl 0 rfl) ?_
  refine va_get (C := RX3) (T := TX3) (N := 5) hx hb hw bfX30 hown hK hP 13 (gx_13 E g a) rfl 4 (by decide) (hw _ bw267) (fun _ h9 => h9) rfl dX3_trySymmetric_1 ?_
  refine lv_iconst (v := 2) hx hb dX3_trySymmetric_4 (by decide) ?_
  obtain ⟨u1, e2, hf⟩ := bd_some hf
  refine xcv (xRunV (rest := []) (As := [.int 2]) (C := RX5) (k := 1) C0 (c_X5_begin l E 6 (by decide) g a 2 e2) bw288 bw296 bw44 bw297 bw298 hd_X5_begin ⟨Nat.le_of_ble_eq_true rfl, Nat.le_of_ble_eq_true rfl⟩ hP (wX_D hD) hS (va_recv hK hP (ci := 5) rfl (gx_46 E g a)) rfl hl.1 rfl (Nat.le_of_ble_eq_true rfl) dX3_trySymmetric_5 ⟨Nat.zero_le _, Nat.zero_le _⟩) hS (fun H locs hP hS => ?_)
  refine lv_iconst (v := 0) hx hb dX3_trySymmetric_8 (by decide) ?_
  refine lv_istore_n (lv' := [(2, .int 0), (0, .ref (E.2.1 13)), (1, .int v1)]) hx hb dX3_trySymmetric_9 rfl hl (by decide) rfl (fun ls hl => ?_)
  exact B10 fu u1.1 u1.2 v1 0 _ _ _ hP hS (lv_sub hl [1, 2, 0] rfl) hf
def t_X5_answerFor (k : Nat) (g : xG) (a : xA) (v1 : Int32) (v2 : Int32) (v3 : Int32) : Int32 := (t_X5_answerAt k g a (t_X5_pointOf k g a v1 v2 v3))
set_option maxRecDepth 100000 in
set_option maxHeartbeats 40000000 in
theorem c_X5_answerFor (l : Launch) (E : xE) (k : Nat) (hk : k < 7) (g : xG) (a : xA) (v1 : Int32) (v2 : Int32) (v3 : Int32) : xM l E yX5_answerFor cX5_answerFor 4 (some .int) 3 66 [.ref (E.2.1 (40 + k)), .int v1, .int v2, .int v3] (wX E g a) (xQi E (t_X5_answerFor k g a v1 v2 v3) (wX E g a)) := by
  obtain ⟨res, hres⟩ : ∃ z, z = t_X5_answerFor k g a v1 v2 v3 := ⟨_, rfl⟩
  rw [← hres]
  have hf : _ = res := hres.symm
  unfold t_X5_answerFor at hf
  refine xM_of (by decide) (Nat.le_of_ble_eq_true rfl) ?_
  intro p e s m below meth c A hx hb hr hml hts hown hlocks hA hD hP hK hN hS ls hl
  have hw : ∀ w ∈ BW, w.before _ s = true := fun w h => hts w (List.mem_cons_of_mem _ h)
  have C0 : xCtx E p m c cX5_answerFor 4 s _ RX5 A yX5_answerFor cX5_answerFor 4 (some .int) := ⟨hx, hb, hml, hown, hts, hA, hK, hN⟩
  have hl : lv_has ls 4 [(0, .ref (E.2.1 (40 + k))), (1, .int v1), (2, .int v2), (3, .int v3)] := hl
  refine lv_aload_n hx hb dX5_answerFor_0 rfl (lv_at hl 0 rfl) ?_
  refine lv_aload_n hx hb dX5_answerFor_1 rfl (lv_at hl 0 rfl) ?_
  refine lv_iload_n hx hb dX5_answerFor_2 rfl (lv_at hl 1 rfl) ?_
  refine lv_iload_n hx hb dX5_answerFor_3 rfl (lv_at hl 2 rfl) ?_
  refine lv_iload_n hx hb dX5_answerFor_4 rfl (lv_at hl 3 rfl) ?_
  refine xci (xRunV (rest := [.ref (E.2.1 (40 + k))]) (As := [.int v1, .int v2, .int v3]) (C := RX5) (k := 3) C0 (c_X5_pointOf l E k hk g a v1 v2 v3) bw308 bw315 bw44 bw311 bw312 hd_X5_pointOf ⟨Nat.le_of_ble_eq_true rfl, Nat.le_of_ble_eq_true rfl⟩ hP (wX_D hD) hS (va_recv hK hP (ci := 5) rfl (gx_op E g a k hk)) rfl hl.1 rfl (Nat.le_of_ble_eq_true rfl) dX5_answerFor_5 ⟨Nat.zero_le _, Nat.zero_le _⟩) hS (fun H locs hP hS => ?_)
  refine xci (xRunV (rest := []) (As := [.int (t_X5_pointOf k g a v1 v2 v3)]) (C := RX5) (k := 1) C0 (c_X5_answerAt l E k hk g a (t_X5_pointOf k g a v1 v2 v3)) bw289 bw291 bw44 bw292 bw293 hd_X5_answerAt ⟨Nat.le_of_ble_eq_true rfl, Nat.le_of_ble_eq_true rfl⟩ hP (wX_D hD) hS (va_recv hK hP (ci := 5) rfl (gx_op E g a k hk)) rfl hl.1 rfl (Nat.le_of_ble_eq_true rfl) dX5_answerFor_8 ⟨Nat.zero_le _, Nat.zero_le _⟩) hS (fun H locs hP hS => ?_)
  exact xi_retS (fr := (fun r => r)) (fw := (fun r => wX E g a)) hx hb hr hlocks hf hP hS dX5_answerFor_11
def f_X5_isAssociative_12 (k : Nat) (g : xG) (a : xA) : Nat → Int32 → Option (Int32)
  | 0, _ => none
  | n + 1, x1 => (if (t_X4_power g a 3) ≤ x1 then some 1 else (if (t_X5_answerFor k g a (t_X4_digit g a x1 0) (t_X5_answerFor k g a (t_X4_digit g a x1 1) (t_X4_digit g a x1 2) 0) 0) = (t_X5_answerFor k g a (t_X5_answerFor k g a (t_X4_digit g a x1 0) (t_X4_digit g a x1 1) 0) (t_X4_digit g a x1 2) 0) then f_X5_isAssociative_12 k g a n (x1 + 1) else some 0))
theorem e_X5_isAssociative_12 (k : Nat) (g : xG) (a : xA) (n : Nat) (x1 : Int32) : f_X5_isAssociative_12 k g a (n + 1) x1 = (if (t_X4_power g a 3) ≤ x1 then some 1 else (if (t_X5_answerFor k g a (t_X4_digit g a x1 0) (t_X5_answerFor k g a (t_X4_digit g a x1 1) (t_X4_digit g a x1 2) 0) 0) = (t_X5_answerFor k g a (t_X5_answerFor k g a (t_X4_digit g a x1 0) (t_X4_digit g a x1 1) 0) (t_X4_digit g a x1 2) 0) then f_X5_isAssociative_12 k g a n (x1 + 1) else some 0)) := rfl
def f_X5_isAssociative (k : Nat) (g : xG) (a : xA) : Option (Int32) := (if (g (15 + k)) = 2 then f_X5_isAssociative_12 k g a fu 0 else some 0)
set_option maxRecDepth 100000 in
set_option maxHeartbeats 40000000 in
theorem c_X5_isAssociative (l : Launch) (E : xE) (k : Nat) (hk : k < 7) (g : xG) (a : xA) {res : Int32} (hf : f_X5_isAssociative k g a = some res) : xM l E yX5_isAssociative cX5_isAssociative 5 (some .boolean) 4 89 [.ref (E.2.1 (40 + k))] (wX E g a) (xQi E res (wX E g a)) := by
  unfold f_X5_isAssociative at hf
  refine xM_of (by decide) (Nat.le_of_ble_eq_true rfl) ?_
  intro p e s m below meth c A hx hb hr hml hts hown hlocks hA hD hP hK hN hS ls hl
  have hw : ∀ w ∈ BW, w.before _ s = true := fun w h => hts w (List.mem_cons_of_mem _ h)
  have C0 : xCtx E p m c cX5_isAssociative 5 s _ RX5 A yX5_isAssociative cX5_isAssociative 5 (some .boolean) := ⟨hx, hb, hml, hown, hts, hA, hK, hN⟩
  have hl : lv_has ls 5 [(0, .ref (E.2.1 (40 + k)))] := hl
  have B12 : ∀ (n : Nat) (x1 : Int32) (H : Heap) (locs : List Loc) (ls : Array Slot), va_P E.1 vwCl (wX E g a) H → va_S A s.heap H locs → lv_has ls 5 [(0, .ref (E.2.1 (40 + k))), (1, .int x1)] → f_X5_isAssociative_12 k g a n x1 = some res → W p l e ({ frames := 4, cells := 0, slots := 0, locals := 89 }) s m ([.ref (E.2.1 (40 + k))] : List Value).toArray below meth c H locs 0 0 (MQ below ((xQi E res (wX E g a)) A) ([.ref (E.2.1 (40 + k))] : List Value).toArray s 0 0 A) (F0 m 12 ls []) := by
    intro n
    induction n with
    | zero => intro x1 H locs ls hP hS hl hf; exact absurd (show (none : Option (Int32)) = some res from hf) (by intro h; cases h)
    | succ n ih =>
      intro x1 H locs ls hP hS hl hf
      replace hf := (e_X5_isAssociative_12 k g a n x1).symm.trans hf
      refine lv_iload_n hx hb dX5_isAssociative_12 rfl (lv_at hl 1 rfl) ?_
      refine lv_aload_n hx hb dX5_isAssociative_13 rfl (lv_at hl 0 rfl) ?_
      refine va_get (C := RX5) (T := TX5) (N := 3) hx hb hw bfX50 hown hK hP (40 + k) (gx_op E g a k hk) rfl 0 (by decide) (hw _ bw35) (fun _ h9 => h9) rfl dX5_isAssociative_14 ?_
      refine lv_iconst (v := 3) hx hb dX5_isAssociative_17 (by decide) ?_
      refine xci (xRunV (rest := [.int x1]) (As := [.int 3]) (C := RX4) (k := 1) C0 (c_X4_power l E g a 3) bw55 bw279 bw22 bw58 bw59 hd_X4_power ⟨Nat.le_of_ble_eq_true rfl, Nat.le_of_ble_eq_true rfl⟩ hP (wX_D hD) hS (va_recv hK hP (ci := 4) rfl (gx_1 E g a)) rfl hl.1 rfl (Nat.le_of_ble_eq_true rfl) dX5_isAssociative_18 ⟨Nat.zero_le _, Nat.zero_le _⟩) hS (fun H locs hP hS => ?_)
      refine lv_icmp_ge (tgt := 94) hx hb dX5_isAssociative_21 (by decide) (fun c2 => ?_) (fun c2 => ?_)
      · replace hf := (if_pos c2).symm.trans hf
        refine lv_iconst (v := 1) hx hb dX5_isAssociative_94 (by decide) ?_
        exact xz_retS (fr := (fun r => r)) (fw := (fun r => wX E g a)) hx hb hr hlocks (Option.some.inj hf) nz1 hP hS dX5_isAssociative_95
      · replace hf := (if_neg c2).symm.trans hf
        refine lv_aload_n hx hb dX5_isAssociative_24 rfl (lv_at hl 0 rfl) ?_
        refine va_get (C := RX5) (T := TX5) (N := 3) hx hb hw bfX50 hown hK hP (40 + k) (gx_op E g a k hk) rfl 0 (by decide) (hw _ bw35) (fun _ h9 => h9) rfl dX5_isAssociative_25 ?_
        refine lv_iload_n hx hb dX5_isAssociative_28 rfl (lv_at hl 1 rfl) ?_
        refine lv_iconst (v := 0) hx hb dX5_isAssociative_29 (by decide) ?_
        refine xci (xRunV (rest := []) (As := [.int x1, .int 0]) (C := RX4) (k := 2) C0 (c_X4_digit l E g a x1 0) bw174 bw284 bw22 bw199 bw200 hd_X4_digit ⟨Nat.le_of_ble_eq_true rfl, Nat.le_of_ble_eq_true rfl⟩ hP (wX_D hD) hS (va_recv hK hP (ci := 4) rfl (gx_1 E g a)) rfl hl.1 rfl (Nat.le_of_ble_eq_true rfl) dX5_isAssociative_30 ⟨Nat.zero_le _, Nat.zero_le _⟩) hS (fun H locs hP hS => ?_)
        refine lv_istore_n (lv' := [(2, .int (t_X4_digit g a x1 0)), (0, .ref (E.2.1 (40 + k))), (1, .int x1)]) hx hb dX5_isAssociative_33 rfl hl (by decide) rfl (fun ls hl => ?_)
        refine lv_aload_n hx hb dX5_isAssociative_34 rfl (lv_at hl 1 rfl) ?_
        refine va_get (C := RX5) (T := TX5) (N := 3) hx hb hw bfX50 hown hK hP (40 + k) (gx_op E g a k hk) rfl 0 (by decide) (hw _ bw35) (fun _ h9 => h9) rfl dX5_isAssociative_35 ?_
        refine lv_iload_n hx hb dX5_isAssociative_38 rfl (lv_at hl 2 rfl) ?_
        refine lv_iconst (v := 1) hx hb dX5_isAssociative_39 (by decide) ?_
        refine xci (xRunV (rest := []) (As := [.int x1, .int 1]) (C := RX4) (k := 2) C0 (c_X4_digit l E g a x1 1) bw174 bw284 bw22 bw199 bw200 hd_X4_digit ⟨Nat.le_of_ble_eq_true rfl, Nat.le_of_ble_eq_true rfl⟩ hP (wX_D hD) hS (va_recv hK hP (ci := 4) rfl (gx_1 E g a)) rfl hl.1 rfl (Nat.le_of_ble_eq_true rfl) dX5_isAssociative_40 ⟨Nat.zero_le _, Nat.zero_le _⟩) hS (fun H locs hP hS => ?_)
        refine lv_istore_n (lv' := [(3, .int (t_X4_digit g a x1 1)), (2, .int (t_X4_digit g a x1 0)), (0, .ref (E.2.1 (40 + k))), (1, .int x1)]) hx hb dX5_isAssociative_43 rfl hl (by decide) rfl (fun ls hl => ?_)
        refine lv_aload_n hx hb dX5_isAssociative_44 rfl (lv_at hl 2 rfl) ?_
        refine va_get (C := RX5) (T := TX5) (N := 3) hx hb hw bfX50 hown hK hP (40 + k) (gx_op E g a k hk) rfl 0 (by decide) (hw _ bw35) (fun _ h9 => h9) rfl dX5_isAssociative_45 ?_
        refine lv_iload_n hx hb dX5_isAssociative_48 rfl (lv_at hl 3 rfl) ?_
        refine lv_iconst (v := 2) hx hb dX5_isAssociative_49 (by decide) ?_
        refine xci (xRunV (rest := []) (As := [.int x1, .int 2]) (C := RX4) (k := 2) C0 (c_X4_digit l E g a x1 2) bw174 bw284 bw22 bw199 bw200 hd_X4_digit ⟨Nat.le_of_ble_eq_true rfl, Nat.le_of_ble_eq_true rfl⟩ hP (wX_D hD) hS (va_recv hK hP (ci := 4) rfl (gx_1 E g a)) rfl hl.1 rfl (Nat.le_of_ble_eq_true rfl) dX5_isAssociative_50 ⟨Nat.zero_le _, Nat.zero_le _⟩) hS (fun H locs hP hS => ?_)
        refine lv_istore (lv' := [(4, .int (t_X4_digit g a x1 2)), (3, .int (t_X4_digit g a x1 1)), (2, .int (t_X4_digit g a x1 0)), (0, .ref (E.2.1 (40 + k))), (1, .int x1)]) hx hb dX5_isAssociative_53 hl (by decide) rfl (fun ls hl => ?_)
        refine lv_aload_n hx hb dX5_isAssociative_55 rfl (lv_at hl 3 rfl) ?_
        refine lv_iload_n hx hb dX5_isAssociative_56 rfl (lv_at hl 2 rfl) ?_
        refine lv_aload_n hx hb dX5_isAssociative_57 rfl (lv_at hl 3 rfl) ?_
        refine lv_iload_n hx hb dX5_isAssociative_58 rfl (lv_at hl 1 rfl) ?_
        refine lv_iload hx hb dX5_isAssociative_59 (lv_at hl 0 rfl) ?_
        refine lv_iconst (v := 0) hx hb dX5_isAssociative_61 (by decide) ?_
        refine xci (xRunV (rest := [.int (t_X4_digit g a x1 0), .ref (E.2.1 (40 + k))]) (As := [.int (t_X4_digit g a x1 1), .int (t_X4_digit g a x1 2), .int 0]) (C := RX5) (k := 3) C0 (c_X5_answerFor l E k hk g a (t_X4_digit g a x1 1) (t_X4_digit g a x1 2) 0) bw314 bw316 bw44 bw317 bw318 hd_X5_answerFor ⟨Nat.le_of_ble_eq_true rfl, Nat.le_of_ble_eq_true rfl⟩ hP (wX_D hD) hS (va_recv hK hP (ci := 5) rfl (gx_op E g a k hk)) rfl hl.1 rfl (Nat.le_of_ble_eq_true rfl) dX5_isAssociative_62 ⟨Nat.zero_le _, Nat.zero_le _⟩) hS (fun H locs hP hS => ?_)
        refine lv_iconst (v := 0) hx hb dX5_isAssociative_65 (by decide) ?_
        refine xci (xRunV (rest := []) (As := [.int (t_X4_digit g a x1 0), .int (t_X5_answerFor k g a (t_X4_digit g a x1 1) (t_X4_digit g a x1 2) 0), .int 0]) (C := RX5) (k := 3) C0 (c_X5_answerFor l E k hk g a (t_X4_digit g a x1 0) (t_X5_answerFor k g a (t_X4_digit g a x1 1) (t_X4_digit g a x1 2) 0) 0) bw314 bw316 bw44 bw317 bw318 hd_X5_answerFor ⟨Nat.le_of_ble_eq_true rfl, Nat.le_of_ble_eq_true rfl⟩ hP (wX_D hD) hS (va_recv hK hP (ci := 5) rfl (gx_op E g a k hk)) rfl hl.1 rfl (Nat.le_of_ble_eq_true rfl) dX5_isAssociative_66 ⟨Nat.zero_le _, Nat.zero_le _⟩) hS (fun H locs hP hS => ?_)
        refine lv_aload_n hx hb dX5_isAssociative_69 rfl (lv_at hl 3 rfl) ?_
        refine lv_aload_n hx hb dX5_isAssociative_70 rfl (lv_at hl 3 rfl) ?_
        refine lv_iload_n hx hb dX5_isAssociative_71 rfl (lv_at hl 2 rfl) ?_
        refine lv_iload_n hx hb dX5_isAssociative_72 rfl (lv_at hl 1 rfl) ?_
        refine lv_iconst (v := 0) hx hb dX5_isAssociative_73 (by decide) ?_
        refine xci (xRunV (rest := [.ref (E.2.1 (40 + k)), .int (t_X5_answerFor k g a (t_X4_digit g a x1 0) (t_X5_answerFor k g a (t_X4_digit g a x1 1) (t_X4_digit g a x1 2) 0) 0)]) (As := [.int (t_X4_digit g a x1 0), .int (t_X4_digit g a x1 1), .int 0]) (C := RX5) (k := 3) C0 (c_X5_answerFor l E k hk g a (t_X4_digit g a x1 0) (t_X4_digit g a x1 1) 0) bw314 bw316 bw44 bw317 bw318 hd_X5_answerFor ⟨Nat.le_of_ble_eq_true rfl, Nat.le_of_ble_eq_true rfl⟩ hP (wX_D hD) hS (va_recv hK hP (ci := 5) rfl (gx_op E g a k hk)) rfl hl.1 rfl (Nat.le_of_ble_eq_true rfl) dX5_isAssociative_74 ⟨Nat.zero_le _, Nat.zero_le _⟩) hS (fun H locs hP hS => ?_)
        refine lv_iload hx hb dX5_isAssociative_77 (lv_at hl 0 rfl) ?_
        refine lv_iconst (v := 0) hx hb dX5_isAssociative_79 (by decide) ?_
        refine xci (xRunV (rest := [.int (t_X5_answerFor k g a (t_X4_digit g a x1 0) (t_X5_answerFor k g a (t_X4_digit g a x1 1) (t_X4_digit g a x1 2) 0) 0)]) (As := [.int (t_X5_answerFor k g a (t_X4_digit g a x1 0) (t_X4_digit g a x1 1) 0), .int (t_X4_digit g a x1 2), .int 0]) (C := RX5) (k := 3) C0 (c_X5_answerFor l E k hk g a (t_X5_answerFor k g a (t_X4_digit g a x1 0) (t_X4_digit g a x1 1) 0) (t_X4_digit g a x1 2) 0) bw314 bw316 bw44 bw317 bw318 hd_X5_answerFor ⟨Nat.le_of_ble_eq_true rfl, Nat.le_of_ble_eq_true rfl⟩ hP (wX_D hD) hS (va_recv hK hP (ci := 5) rfl (gx_op E g a k hk)) rfl hl.1 rfl (Nat.le_of_ble_eq_true rfl) dX5_isAssociative_80 ⟨Nat.zero_le _, Nat.zero_le _⟩) hS (fun H locs hP hS => ?_)
        refine lv_icmp_eq (tgt := 88) hx hb dX5_isAssociative_83 (by decide) (fun c3 => ?_) (fun c3 => ?_)
        · replace hf := (if_pos c3).symm.trans hf
          refine lv_iinc (v := (x1 + 1)) (lv' := [(1, .int (x1 + 1)), (4, .int (t_X4_digit g a x1 2)), (3, .int (t_X4_digit g a x1 1)), (2, .int (t_X4_digit g a x1 0)), (0, .ref (E.2.1 (40 + k)))]) hx hb dX5_isAssociative_88 hl (k := 4) rfl rfl (by decide) rfl (fun ls hl => ?_)
          refine lv_goto (tgt := 12) hx hb dX5_isAssociative_91 (by decide) ?_
          exact ih (x1 + 1) _ _ _ hP hS (lv_sub hl [4, 0] rfl) hf
        · replace hf := (if_neg c3).symm.trans hf
          refine lv_iconst (v := 0) hx hb dX5_isAssociative_86 (by decide) ?_
          exact xz_retS (fr := (fun r => r)) (fw := (fun r => wX E g a)) hx hb hr hlocks (Option.some.inj hf) nz0 hP hS dX5_isAssociative_87
  refine lv_aload_n hx hb dX5_isAssociative_0 rfl (lv_at hl 0 rfl) ?_
  refine va_get (C := RX5) (T := TX5) (N := 3) hx hb hw bfX50 hown hK hP (40 + k) (gx_op E g a k hk) rfl 1 (by decide) (hw _ bw32) (fun _ h9 => h9) rfl dX5_isAssociative_1 ?_
  refine lv_iconst (v := 2) hx hb dX5_isAssociative_4 (by decide) ?_
  refine lv_icmp_eq (tgt := 10) hx hb dX5_isAssociative_5 (by decide) (fun c1 => ?_) (fun c1 => ?_)
  · replace hf := (if_pos c1).symm.trans hf
    refine lv_iconst (v := 0) hx hb dX5_isAssociative_10 (by decide) ?_
    refine lv_istore_n (lv' := [(1, .int 0), (0, .ref (E.2.1 (40 + k)))]) hx hb dX5_isAssociative_11 rfl hl (by decide) rfl (fun ls hl => ?_)
    exact B12 fu 0 _ _ _ hP hS (lv_sub hl [1, 0] rfl) hf
  · replace hf := (if_neg c1).symm.trans hf
    refine lv_iconst (v := 0) hx hb dX5_isAssociative_8 (by decide) ?_
    exact xz_retS (fr := (fun r => r)) (fw := (fun r => wX E g a)) hx hb hr hlocks (Option.some.inj hf) nz0 hP hS dX5_isAssociative_9
def f_X3_firstSemilattice_20 : Nat → xG → xA → Int32 → Int32 → Option (Int64 × xG × xA)
  | 0, _, _, _, _ => none
  | n + 1, g, a, x1, x2 => (if x1 ≤ x2 then some ((-1), g, a) else Option.bind (f_X3_trySymmetric g a x2) (fun u3 => Option.bind (f_X5_isAssociative 6 u3.1 u3.2) (fun u5 => (if u5 = 0 then f_X3_firstSemilattice_20 n u3.1 u3.2 x1 (x2 + 1) else Option.bind (f_X3_triedKeepsAll u3.1 u3.2) (fun u8 => (if u8.1 = 0 then f_X3_firstSemilattice_20 n u8.2.1 u8.2.2 x1 (x2 + 1) else Option.bind (f_X5_wholeCode 6 u8.2.1 u8.2.2) (fun u11 => some (u11, u8.2.1, u8.2.2))))))))
theorem e_X3_firstSemilattice_20 (n : Nat) (g : xG) (a : xA) (x1 : Int32) (x2 : Int32) : f_X3_firstSemilattice_20 (n + 1) g a x1 x2 = (if x1 ≤ x2 then some ((-1), g, a) else Option.bind (f_X3_trySymmetric g a x2) (fun u3 => Option.bind (f_X5_isAssociative 6 u3.1 u3.2) (fun u5 => (if u5 = 0 then f_X3_firstSemilattice_20 n u3.1 u3.2 x1 (x2 + 1) else Option.bind (f_X3_triedKeepsAll u3.1 u3.2) (fun u8 => (if u8.1 = 0 then f_X3_firstSemilattice_20 n u8.2.1 u8.2.2 x1 (x2 + 1) else Option.bind (f_X5_wholeCode 6 u8.2.1 u8.2.2) (fun u11 => some (u11, u8.2.1, u8.2.2)))))))) := rfl
def f_X3_firstSemilattice (g : xG) (a : xA) : Option (Int64 × xG × xA) := (if (g 0) = 2 then f_X3_firstSemilattice_20 fu g a 2 0 else f_X3_firstSemilattice_20 fu g a 27 0)
set_option maxRecDepth 100000 in
set_option maxHeartbeats 40000000 in
theorem c_X3_firstSemilattice (l : Launch) (E : xE) (g : xG) (a : xA) {res : Int64 × xG × xA} (hf : f_X3_firstSemilattice g a = some res) : xM l E yX3_firstSemilattice cX3_firstSemilattice 3 (some .long) 6 136 [.ref (E.2.1 13)] (wX E g a) (xQl E res.1 (wX E res.2.1 res.2.2)) := by
  unfold f_X3_firstSemilattice at hf
  refine xM_of (by decide) (Nat.le_of_ble_eq_true rfl) ?_
  intro p e s m below meth c A hx hb hr hml hts hown hlocks hA hD hP hK hN hS ls hl
  have hw : ∀ w ∈ BW, w.before _ s = true := fun w h => hts w (List.mem_cons_of_mem _ h)
  have C0 : xCtx E p m c cX3_firstSemilattice 3 s _ RX3 A yX3_firstSemilattice cX3_firstSemilattice 3 (some .long) := ⟨hx, hb, hml, hown, hts, hA, hK, hN⟩
  have hl : lv_has ls 3 [(0, .ref (E.2.1 13))] := hl
  have B20 : ∀ (n : Nat) (g : xG) (a : xA) (x1 : Int32) (x2 : Int32) (H : Heap) (locs : List Loc) (ls : Array Slot), va_P E.1 vwCl (wX E g a) H → va_S A s.heap H locs → lv_has ls 3 [(0, .ref (E.2.1 13)), (1, .int x1), (2, .int x2)] → f_X3_firstSemilattice_20 n g a x1 x2 = some res → W p l e ({ frames := 6, cells := 0, slots := 0, locals := 136 }) s m ([.ref (E.2.1 13)] : List Value).toArray below meth c H locs 0 0 (MQ below ((xQl E res.1 (wX E res.2.1 res.2.2)) A) ([.ref (E.2.1 13)] : List Value).toArray s 0 0 A) (F0 m 20 ls []) := by
    intro n
    induction n with
    | zero => intro g a x1 x2 H locs ls hP hS hl hf; exact absurd (show (none : Option (Int64 × xG × xA)) = some res from hf) (by intro h; cases h)
    | succ n ih =>
      intro g a x1 x2 H locs ls hP hS hl hf
      replace hf := (e_X3_firstSemilattice_20 n g a x1 x2).symm.trans hf
      refine lv_iload_n hx hb dX3_firstSemilattice_20 rfl (lv_at hl 2 rfl) ?_
      refine lv_iload_n hx hb dX3_firstSemilattice_21 rfl (lv_at hl 1 rfl) ?_
      refine lv_icmp_ge (tgt := 61) hx hb dX3_firstSemilattice_22 (by decide) (fun c2 => ?_) (fun c2 => ?_)
      · replace hf := (if_pos c2).symm.trans hf
        refine lv_ldc2 hx hb hown (hw _ bw295) dX3_firstSemilattice_61 ?_
        exact xl_retS (fr := (fun r => r.1)) (fw := (fun r => wX E r.2.1 r.2.2)) hx hb hr hlocks (Option.some.inj hf) hP hS dX3_firstSemilattice_64
      · replace hf := (if_neg c2).symm.trans hf
        refine lv_aload_n hx hb dX3_firstSemilattice_25 rfl (lv_at hl 0 rfl) ?_
        refine lv_iload_n hx hb dX3_firstSemilattice_26 rfl (lv_at hl 2 rfl) ?_
        obtain ⟨u3, e4, hf⟩ := bd_some hf
        refine xcv (xRunV (rest := []) (As := [.int x2]) (C := RX3) (k := 1) C0 (c_X3_trySymmetric l E g a x2 e4) bw313 bw320 bw303 bw321 bw322 hd_X3_trySymmetric ⟨Nat.le_of_ble_eq_true rfl, Nat.le_of_ble_eq_true rfl⟩ hP (wX_D hD) hS (va_recv hK hP (ci := 3) rfl (gx_13 E g a)) rfl hl.1 rfl (Nat.le_of_ble_eq_true rfl) dX3_firstSemilattice_27 ⟨Nat.zero_le _, Nat.zero_le _⟩) hS (fun H locs hP hS => ?_)
        refine lv_aload_n hx hb dX3_firstSemilattice_30 rfl (lv_at hl 0 rfl) ?_
        refine va_get (C := RX3) (T := TX3) (N := 5) hx hb hw bfX30 hown hK hP 13 (gx_13 E u3.1 u3.2) rfl 4 (by decide) (hw _ bw267) (fun _ h9 => h9) rfl dX3_firstSemilattice_31 ?_
        obtain ⟨u5, e6, hf⟩ := bd_some hf
        refine xci (xRunV (rest := []) (As := []) (C := RX5) (k := 0) C0 (c_X5_isAssociative l E 6 (by decide) u3.1 u3.2 e6) bw319 bw323 bw44 bw324 bw325 hd_X5_isAssociative ⟨Nat.le_of_ble_eq_true rfl, Nat.le_of_ble_eq_true rfl⟩ hP (wX_D hD) hS (va_recv hK hP (ci := 5) rfl (gx_46 E u3.1 u3.2)) rfl hl.1 rfl (Nat.le_of_ble_eq_true rfl) dX3_firstSemilattice_34 ⟨Nat.zero_le _, Nat.zero_le _⟩) hS (fun H locs hP hS => ?_)
        refine lv_if_eq (tgt := 55) hx hb dX3_firstSemilattice_37 (by decide) (fun c7 => ?_) (fun c7 => ?_)
        · replace hf := (if_pos c7).symm.trans hf
          refine lv_iinc (v := (x2 + 1)) (lv' := [(2, .int (x2 + 1)), (0, .ref (E.2.1 13)), (1, .int x1)]) hx hb dX3_firstSemilattice_55 hl (k := 2) rfl rfl (by decide) rfl (fun ls hl => ?_)
          refine lv_goto (tgt := 20) hx hb dX3_firstSemilattice_58 (by decide) ?_
          exact ih u3.1 u3.2 x1 (x2 + 1) _ _ _ hP hS (lv_sub hl [1, 2, 0] rfl) hf
        · replace hf := (if_neg c7).symm.trans hf
          refine lv_aload_n hx hb dX3_firstSemilattice_40 rfl (lv_at hl 0 rfl) ?_
          obtain ⟨u8, e9, hf⟩ := bd_some hf
          refine xci (xRunV (rest := []) (As := []) (C := RX3) (k := 0) C0 (c_X3_triedKeepsAll l E u3.1 u3.2 e9) bw277 bw300 bw303 bw301 bw302 hd_X3_triedKeepsAll ⟨Nat.le_of_ble_eq_true rfl, Nat.le_of_ble_eq_true rfl⟩ hP (wX_D hD) hS (va_recv hK hP (ci := 3) rfl (gx_13 E u3.1 u3.2)) rfl hl.1 rfl (Nat.le_of_ble_eq_true rfl) dX3_firstSemilattice_41 ⟨Nat.zero_le _, Nat.zero_le _⟩) hS (fun H locs hP hS => ?_)
          refine lv_if_eq (tgt := 55) hx hb dX3_firstSemilattice_44 (by decide) (fun c10 => ?_) (fun c10 => ?_)
          · replace hf := (if_pos c10).symm.trans hf
            refine lv_iinc (v := (x2 + 1)) (lv' := [(2, .int (x2 + 1)), (0, .ref (E.2.1 13)), (1, .int x1)]) hx hb dX3_firstSemilattice_55 hl (k := 2) rfl rfl (by decide) rfl (fun ls hl => ?_)
            refine lv_goto (tgt := 20) hx hb dX3_firstSemilattice_58 (by decide) ?_
            exact ih u8.2.1 u8.2.2 x1 (x2 + 1) _ _ _ hP hS (lv_sub hl [1, 2, 0] rfl) hf
          · replace hf := (if_neg c10).symm.trans hf
            refine lv_aload_n hx hb dX3_firstSemilattice_47 rfl (lv_at hl 0 rfl) ?_
            refine va_get (C := RX3) (T := TX3) (N := 5) hx hb hw bfX30 hown hK hP 13 (gx_13 E u8.2.1 u8.2.2) rfl 4 (by decide) (hw _ bw267) (fun _ h9 => h9) rfl dX3_firstSemilattice_48 ?_
            obtain ⟨u11, e12, hf⟩ := bd_some hf
            refine xcl (xRunV (rest := []) (As := []) (C := RX5) (k := 0) C0 (c_X5_wholeCode l E 6 (by decide) u8.2.1 u8.2.2 e12) bw290 bw304 bw44 bw305 bw306 hd_X5_wholeCode ⟨Nat.le_of_ble_eq_true rfl, Nat.le_of_ble_eq_true rfl⟩ hP (wX_D hD) hS (va_recv hK hP (ci := 5) rfl (gx_46 E u8.2.1 u8.2.2)) rfl hl.1 rfl (Nat.le_of_ble_eq_true rfl) dX3_firstSemilattice_51 ⟨Nat.zero_le _, Nat.zero_le _⟩) hS (fun H locs hP hS => ?_)
            exact xl_retS (fr := (fun r => r.1)) (fw := (fun r => wX E r.2.1 r.2.2)) hx hb hr hlocks (Option.some.inj hf) hP hS dX3_firstSemilattice_54
  refine lv_aload_n hx hb dX3_firstSemilattice_0 rfl (lv_at hl 0 rfl) ?_
  refine va_get (C := RX3) (T := TX3) (N := 5) hx hb hw bfX30 hown hK hP 13 (gx_13 E g a) rfl 0 (by decide) (hw _ bw258) (fun _ h9 => h9) rfl dX3_firstSemilattice_1 ?_
  refine va_get (C := RX4) (T := TX4) (N := 3) hx hb hw bfX40 hown hK hP 1 (gx_1 E g a) rfl 0 (by decide) (hw _ bw294) (fun _ h9 => h9) rfl dX3_firstSemilattice_4 ?_
  refine lv_iconst (v := 2) hx hb dX3_firstSemilattice_7 (by decide) ?_
  refine lv_icmp_ne (tgt := 15) hx hb dX3_firstSemilattice_8 (by decide) (fun c1 => ?_) (fun c1 => ?_)
  · replace hf := (if_neg c1).symm.trans hf
    refine lv_bipush (v := 27) hx hb dX3_firstSemilattice_15 (by decide) ?_
    refine lv_istore_n (lv' := [(1, .int 27), (0, .ref (E.2.1 13))]) hx hb dX3_firstSemilattice_17 rfl hl (by decide) rfl (fun ls hl => ?_)
    refine lv_iconst (v := 0) hx hb dX3_firstSemilattice_18 (by decide) ?_
    refine lv_istore_n (lv' := [(2, .int 0), (1, .int 27), (0, .ref (E.2.1 13))]) hx hb dX3_firstSemilattice_19 rfl hl (by decide) rfl (fun ls hl => ?_)
    exact B20 fu g a 27 0 _ _ _ hP hS (lv_sub hl [2, 1, 0] rfl) hf
  · replace hf := (if_pos c1).symm.trans hf
    refine lv_iconst (v := 2) hx hb dX3_firstSemilattice_11 (by decide) ?_
    refine lv_goto (tgt := 17) hx hb dX3_firstSemilattice_12 (by decide) ?_
    refine lv_istore_n (lv' := [(1, .int 2), (0, .ref (E.2.1 13))]) hx hb dX3_firstSemilattice_17 rfl hl (by decide) rfl (fun ls hl => ?_)
    refine lv_iconst (v := 0) hx hb dX3_firstSemilattice_18 (by decide) ?_
    refine lv_istore_n (lv' := [(2, .int 0), (1, .int 2), (0, .ref (E.2.1 13))]) hx hb dX3_firstSemilattice_19 rfl hl (by decide) rfl (fun ls hl => ?_)
    exact B20 fu g a 2 0 _ _ _ hP hS (lv_sub hl [2, 1, 0] rfl) hf
def t_X8_keyOf (g : xG) (a : xA) (v1 : Int32) (v2 : Int32) (v3 : Int32) : Int32 := (if (t_X4_widest g a) ≤ 2 then ((v1 + ((g 5) * v2)) + 0) else ((v1 + ((g 5) * v2)) + (((g 5) * (g 5)) * v3)))
set_option maxRecDepth 100000 in
set_option maxHeartbeats 40000000 in
theorem c_X8_keyOf (l : Launch) (E : xE) (g : xG) (a : xA) (v1 : Int32) (v2 : Int32) (v3 : Int32) : xM l E yX8_keyOf cX8_keyOf 4 (some .int) 1 20 [.ref (E.2.1 14), .int v1, .int v2, .int v3] (wX E g a) (xQi E (t_X8_keyOf g a v1 v2 v3) (wX E g a)) := by
  obtain ⟨res, hres⟩ : ∃ z, z = t_X8_keyOf g a v1 v2 v3 := ⟨_, rfl⟩
  rw [← hres]
  have hf : _ = res := hres.symm
  unfold t_X8_keyOf at hf
  refine xM_of (by decide) (Nat.le_of_ble_eq_true rfl) ?_
  intro p e s m below meth c A hx hb hr hml hts hown hlocks hA hD hP hK hN hS ls hl
  have hw : ∀ w ∈ BW, w.before _ s = true := fun w h => hts w (List.mem_cons_of_mem _ h)
  have C0 : xCtx E p m c cX8_keyOf 4 s _ RX8 A yX8_keyOf cX8_keyOf 4 (some .int) := ⟨hx, hb, hml, hown, hts, hA, hK, hN⟩
  have hl : lv_has ls 4 [(0, .ref (E.2.1 14)), (1, .int v1), (2, .int v2), (3, .int v3)] := hl
  refine lv_iload_n hx hb dX8_keyOf_0 rfl (lv_at hl 1 rfl) ?_
  refine lv_aload_n hx hb dX8_keyOf_1 rfl (lv_at hl 0 rfl) ?_
  refine va_get (C := RX8) (T := TX8) (N := 8) hx hb hw bfX80 hown hK hP 14 (gx_14 E g a) rfl 7 (by decide) (hw _ bw328) (fun _ h9 => h9) rfl dX8_keyOf_2 ?_
  refine lv_iload_n hx hb dX8_keyOf_5 rfl (lv_at hl 2 rfl) ?_
  refine lv_imul hx hb dX8_keyOf_6 ?_
  refine lv_iadd hx hb dX8_keyOf_7 ?_
  refine lv_aload_n hx hb dX8_keyOf_8 rfl (lv_at hl 0 rfl) ?_
  refine va_get (C := RX8) (T := TX8) (N := 8) hx hb hw bfX80 hown hK hP 14 (gx_14 E g a) rfl 0 (by decide) (hw _ bw252) (fun _ h9 => h9) rfl dX8_keyOf_9 ?_
  refine xci (xRunV (rest := [.int (v1 + ((g 5) * v2))]) (As := []) (C := RX4) (k := 0) C0 (c_X4_widest l E g a) bw96 bw329 bw22 bw105 bw106 hd_X4_widest ⟨Nat.le_of_ble_eq_true rfl, Nat.le_of_ble_eq_true rfl⟩ hP (wX_D hD) hS (va_recv hK hP (ci := 4) rfl (gx_1 E g a)) rfl hl.1 rfl (Nat.le_of_ble_eq_true rfl) dX8_keyOf_12 ⟨Nat.zero_le _, Nat.zero_le _⟩) hS (fun H locs hP hS => ?_)
  refine lv_iconst (v := 2) hx hb dX8_keyOf_15 (by decide) ?_
  refine lv_icmp_le (tgt := 33) hx hb dX8_keyOf_16 (by decide) (fun c1 => ?_) (fun c1 => ?_)
  · replace hf := (if_pos c1).symm.trans hf
    refine lv_iconst (v := 0) hx hb dX8_keyOf_33 (by decide) ?_
    refine lv_iadd hx hb dX8_keyOf_34 ?_
    exact xi_retS (fr := (fun r => r)) (fw := (fun r => wX E g a)) hx hb hr hlocks hf hP hS dX8_keyOf_35
  · replace hf := (if_neg c1).symm.trans hf
    refine lv_aload_n hx hb dX8_keyOf_19 rfl (lv_at hl 0 rfl) ?_
    refine va_get (C := RX8) (T := TX8) (N := 8) hx hb hw bfX80 hown hK hP 14 (gx_14 E g a) rfl 7 (by decide) (hw _ bw328) (fun _ h9 => h9) rfl dX8_keyOf_20 ?_
    refine lv_aload_n hx hb dX8_keyOf_23 rfl (lv_at hl 0 rfl) ?_
    refine va_get (C := RX8) (T := TX8) (N := 8) hx hb hw bfX80 hown hK hP 14 (gx_14 E g a) rfl 7 (by decide) (hw _ bw328) (fun _ h9 => h9) rfl dX8_keyOf_24 ?_
    refine lv_imul hx hb dX8_keyOf_27 ?_
    refine lv_iload_n hx hb dX8_keyOf_28 rfl (lv_at hl 3 rfl) ?_
    refine lv_imul hx hb dX8_keyOf_29 ?_
    refine lv_goto (tgt := 34) hx hb dX8_keyOf_30 (by decide) ?_
    refine lv_iadd hx hb dX8_keyOf_34 ?_
    exact xi_retS (fr := (fun r => r)) (fw := (fun r => wX E g a)) hx hb hr hlocks hf hP hS dX8_keyOf_35
def f_X8_ask_65 : Nat → xG → xA → Int32 → Int32 → Int32 → Option (xG × xA)
  | 0, _, _, _, _, _ => none
  | n + 1, g, a, x2, x4, x5 => (if x5 ≤ 0 then some (g, a) else Option.bind (f_X0_nextColumns g a) (fun u5 => f_X8_ask_65 n g (upA u5.2 15 (putF 729 (u5.2 15) (t_X8_keyOf g u5.2 (t_X4_onPlace g u5.2 u5.1 0) (t_X4_onPlace g u5.2 u5.1 (if (x2 - 1) < 1 then (x2 - 1) else 1)) (t_X4_onPlace g u5.2 u5.1 (if (x2 - 1) < 2 then (x2 - 1) else 2))) ((atF 729 (u5.2 15) (t_X8_keyOf g u5.2 (t_X4_onPlace g u5.2 u5.1 0) (t_X4_onPlace g u5.2 u5.1 (if (x2 - 1) < 1 then (x2 - 1) else 1)) (t_X4_onPlace g u5.2 u5.1 (if (x2 - 1) < 2 then (x2 - 1) else 2)))) &&& x4))) x2 x4 (x5 + (-1))))
theorem e_X8_ask_65 (n : Nat) (g : xG) (a : xA) (x2 : Int32) (x4 : Int32) (x5 : Int32) : f_X8_ask_65 (n + 1) g a x2 x4 x5 = (if x5 ≤ 0 then some (g, a) else Option.bind (f_X0_nextColumns g a) (fun u5 => f_X8_ask_65 n g (upA u5.2 15 (putF 729 (u5.2 15) (t_X8_keyOf g u5.2 (t_X4_onPlace g u5.2 u5.1 0) (t_X4_onPlace g u5.2 u5.1 (if (x2 - 1) < 1 then (x2 - 1) else 1)) (t_X4_onPlace g u5.2 u5.1 (if (x2 - 1) < 2 then (x2 - 1) else 2))) ((atF 729 (u5.2 15) (t_X8_keyOf g u5.2 (t_X4_onPlace g u5.2 u5.1 0) (t_X4_onPlace g u5.2 u5.1 (if (x2 - 1) < 1 then (x2 - 1) else 1)) (t_X4_onPlace g u5.2 u5.1 (if (x2 - 1) < 2 then (x2 - 1) else 2)))) &&& x4))) x2 x4 (x5 + (-1)))) := rfl
def f_X8_ask_6 : Nat → xG → xA → Int32 → Int32 → Int32 → Int32 → Int32 → Option (xG × xA)
  | 0, _, _, _, _, _, _, _ => none
  | n + 1, g, a, x1, x2, x3, x4, x5 => (if (t_X4_power g a (t_X4_widest g a)) ≤ x5 then Option.bind (f_X0_beginChoices g a x1 x3) (fun u2 => f_X8_ask_65 fu u2.2.1 u2.2.2 x2 x4 u2.1) else f_X8_ask_6 n g a x1 x2 x3 (x4 ||| ((x3 : Int32) <<< (x5 &&& 31))) (x5 + (if 1 < (t_X4_power g a x2) then (t_X4_power g a x2) else 1)))
theorem e_X8_ask_6 (n : Nat) (g : xG) (a : xA) (x1 : Int32) (x2 : Int32) (x3 : Int32) (x4 : Int32) (x5 : Int32) : f_X8_ask_6 (n + 1) g a x1 x2 x3 x4 x5 = (if (t_X4_power g a (t_X4_widest g a)) ≤ x5 then Option.bind (f_X0_beginChoices g a x1 x3) (fun u2 => f_X8_ask_65 fu u2.2.1 u2.2.2 x2 x4 u2.1) else f_X8_ask_6 n g a x1 x2 x3 (x4 ||| ((x3 : Int32) <<< (x5 &&& 31))) (x5 + (if 1 < (t_X4_power g a x2) then (t_X4_power g a x2) else 1))) := rfl
def f_X8_ask (g : xG) (a : xA) (v1 : Int32) (v2 : Int32) (v3 : Int32) : Option (xG × xA) := f_X8_ask_6 fu g a v1 v2 v3 0 0
set_option maxRecDepth 100000 in
set_option maxHeartbeats 40000000 in
theorem c_X8_ask (l : Launch) (E : xE) (g : xG) (a : xA) (v1 : Int32) (v2 : Int32) (v3 : Int32) {res : xG × xA} (hf : f_X8_ask g a v1 v2 v3 = some res) : xM l E yX8_ask cX8_ask 11 none 3 66 [.ref (E.2.1 14), .int v1, .int v2, .int v3] (wX E g a) (xQv E (wX E res.1 res.2)) := by
  unfold f_X8_ask at hf
  refine xM_of (by decide) (Nat.le_of_ble_eq_true rfl) ?_
  intro p e s m below meth c A hx hb hr hml hts hown hlocks hA hD hP hK hN hS ls hl
  have hw : ∀ w ∈ BW, w.before _ s = true := fun w h => hts w (List.mem_cons_of_mem _ h)
  have C0 : xCtx E p m c cX8_ask 11 s _ RX8 A yX8_ask cX8_ask 11 none := ⟨hx, hb, hml, hown, hts, hA, hK, hN⟩
  have hl : lv_has ls 11 [(0, .ref (E.2.1 14)), (1, .int v1), (2, .int v2), (3, .int v3)] := hl
  have B65 : ∀ (n : Nat) (g : xG) (a : xA) (x2 : Int32) (x4 : Int32) (x5 : Int32) (H : Heap) (locs : List Loc) (ls : Array Slot), va_P E.1 vwCl (wX E g a) H → va_S A s.heap H locs → lv_has ls 11 [(0, .ref (E.2.1 14)), (2, .int x2), (4, .int x4), (5, .int x5)] → f_X8_ask_65 n g a x2 x4 x5 = some res → W p l e ({ frames := 3, cells := 0, slots := 0, locals := 66 }) s m ([.ref (E.2.1 14), .int v1, .int v2, .int v3] : List Value).toArray below meth c H locs 0 0 (MQ below ((xQv E (wX E res.1 res.2)) A) ([.ref (E.2.1 14), .int v1, .int v2, .int v3] : List Value).toArray s 0 0 A) (F0 m 65 ls []) := by
    intro n
    induction n with
    | zero => intro g a x2 x4 x5 H locs ls hP hS hl hf; exact absurd (show (none : Option (xG × xA)) = some res from hf) (by intro h; cases h)
    | succ n ih =>
      intro g a x2 x4 x5 H locs ls hP hS hl hf
      replace hf := (e_X8_ask_65 n g a x2 x4 x5).symm.trans hf
      refine lv_iload hx hb dX8_ask_65 (lv_at hl 3 rfl) ?_
      refine lv_if_le (tgt := 166) hx hb dX8_ask_67 (by decide) (fun c4 => ?_) (fun c4 => ?_)
      · replace hf := (if_pos c4).symm.trans hf
        exact xv_retS (fw := (fun r => wX E r.1 r.2)) hx hb hr hlocks (Option.some.inj hf) hP hS dX8_ask_166
      · replace hf := (if_neg c4).symm.trans hf
        refine lv_aload_n hx hb dX8_ask_70 rfl (lv_at hl 0 rfl) ?_
        refine va_get (C := RX8) (T := TX8) (N := 8) hx hb hw bfX80 hown hK hP 14 (gx_14 E g a) rfl 2 (by decide) (hw _ bw254) (fun _ h9 => h9) rfl dX8_ask_71 ?_
        obtain ⟨u5, e6, hf⟩ := bd_some hf
        refine xci (xRunV (rest := []) (As := []) (C := RX0) (k := 0) C0 (c_X0_nextColumns l E g a e6) bw25 bw336 bw30 bw49 bw50 hd_X0_nextColumns ⟨Nat.le_of_ble_eq_true rfl, Nat.le_of_ble_eq_true rfl⟩ hP (wX_D hD) hS (va_recv hK hP (ci := 0) rfl (gx_7 E g a)) rfl hl.1 rfl (Nat.le_of_ble_eq_true rfl) dX8_ask_74 ⟨Nat.zero_le _, Nat.zero_le _⟩) hS (fun H locs hP hS => ?_)
        refine lv_istore (lv' := [(6, .int u5.1), (0, .ref (E.2.1 14)), (2, .int x2), (4, .int x4), (5, .int x5)]) hx hb dX8_ask_77 hl (by decide) rfl (fun ls hl => ?_)
        refine lv_aload_n hx hb dX8_ask_79 rfl (lv_at hl 1 rfl) ?_
        refine va_get (C := RX8) (T := TX8) (N := 8) hx hb hw bfX80 hown hK hP 14 (gx_14 E g u5.2) rfl 0 (by decide) (hw _ bw252) (fun _ h9 => h9) rfl dX8_ask_80 ?_
        refine lv_iload hx hb dX8_ask_83 (lv_at hl 0 rfl) ?_
        refine lv_iconst (v := 0) hx hb dX8_ask_85 (by decide) ?_
        refine xci (xRunV (rest := []) (As := [.int u5.1, .int 0]) (C := RX4) (k := 2) C0 (c_X4_onPlace l E g u5.2 u5.1 0) bw33 bw337 bw22 bw39 bw40 hd_X4_onPlace ⟨Nat.le_of_ble_eq_true rfl, Nat.le_of_ble_eq_true rfl⟩ hP (wX_D hD) hS (va_recv hK hP (ci := 4) rfl (gx_1 E g u5.2)) rfl hl.1 rfl (Nat.le_of_ble_eq_true rfl) dX8_ask_86 ⟨Nat.zero_le _, Nat.zero_le _⟩) hS (fun H locs hP hS => ?_)
        refine lv_istore (lv' := [(7, .int (t_X4_onPlace g u5.2 u5.1 0)), (6, .int u5.1), (0, .ref (E.2.1 14)), (2, .int x2), (4, .int x4), (5, .int x5)]) hx hb dX8_ask_89 hl (by decide) rfl (fun ls hl => ?_)
        refine lv_aload_n hx hb dX8_ask_91 rfl (lv_at hl 2 rfl) ?_
        refine va_get (C := RX8) (T := TX8) (N := 8) hx hb hw bfX80 hown hK hP 14 (gx_14 E g u5.2) rfl 0 (by decide) (hw _ bw252) (fun _ h9 => h9) rfl dX8_ask_92 ?_
        refine lv_iload hx hb dX8_ask_95 (lv_at hl 1 rfl) ?_
        refine lv_iconst (v := 1) hx hb dX8_ask_97 (by decide) ?_
        refine lv_iload_n hx hb dX8_ask_98 rfl (lv_at hl 3 rfl) ?_
        refine lv_iconst (v := 1) hx hb dX8_ask_99 (by decide) ?_
        refine lv_isub hx hb dX8_ask_100 ?_
        refine va_mmin hx hb (hml.trans hl.1.symm) hown (hw _ bw333) (hw _ bw123) (hw _ bw124) (hw _ bw125) (Nat.le_of_ble_eq_true rfl) (Nat.le_of_ble_eq_true rfl) (Nat.zero_le _) (Nat.zero_le _) dX8_ask_101 ?_
        refine xci (xRunV (rest := []) (As := [.int u5.1, .int (if (x2 - 1) < 1 then (x2 - 1) else 1)]) (C := RX4) (k := 2) C0 (c_X4_onPlace l E g u5.2 u5.1 (if (x2 - 1) < 1 then (x2 - 1) else 1)) bw33 bw337 bw22 bw39 bw40 hd_X4_onPlace ⟨Nat.le_of_ble_eq_true rfl, Nat.le_of_ble_eq_true rfl⟩ hP (wX_D hD) hS (va_recv hK hP (ci := 4) rfl (gx_1 E g u5.2)) rfl hl.1 rfl (Nat.le_of_ble_eq_true rfl) dX8_ask_104 ⟨Nat.zero_le _, Nat.zero_le _⟩) hS (fun H locs hP hS => ?_)
        refine lv_istore (lv' := [(8, .int (t_X4_onPlace g u5.2 u5.1 (if (x2 - 1) < 1 then (x2 - 1) else 1))), (7, .int (t_X4_onPlace g u5.2 u5.1 0)), (6, .int u5.1), (0, .ref (E.2.1 14)), (2, .int x2), (4, .int x4), (5, .int x5)]) hx hb dX8_ask_107 hl (by decide) rfl (fun ls hl => ?_)
        refine lv_aload_n hx hb dX8_ask_109 rfl (lv_at hl 3 rfl) ?_
        refine va_get (C := RX8) (T := TX8) (N := 8) hx hb hw bfX80 hown hK hP 14 (gx_14 E g u5.2) rfl 0 (by decide) (hw _ bw252) (fun _ h9 => h9) rfl dX8_ask_110 ?_
        refine lv_iload hx hb dX8_ask_113 (lv_at hl 2 rfl) ?_
        refine lv_iconst (v := 2) hx hb dX8_ask_115 (by decide) ?_
        refine lv_iload_n hx hb dX8_ask_116 rfl (lv_at hl 4 rfl) ?_
        refine lv_iconst (v := 1) hx hb dX8_ask_117 (by decide) ?_
        refine lv_isub hx hb dX8_ask_118 ?_
        refine va_mmin hx hb (hml.trans hl.1.symm) hown (hw _ bw333) (hw _ bw123) (hw _ bw124) (hw _ bw125) (Nat.le_of_ble_eq_true rfl) (Nat.le_of_ble_eq_true rfl) (Nat.zero_le _) (Nat.zero_le _) dX8_ask_119 ?_
        refine xci (xRunV (rest := []) (As := [.int u5.1, .int (if (x2 - 1) < 2 then (x2 - 1) else 2)]) (C := RX4) (k := 2) C0 (c_X4_onPlace l E g u5.2 u5.1 (if (x2 - 1) < 2 then (x2 - 1) else 2)) bw33 bw337 bw22 bw39 bw40 hd_X4_onPlace ⟨Nat.le_of_ble_eq_true rfl, Nat.le_of_ble_eq_true rfl⟩ hP (wX_D hD) hS (va_recv hK hP (ci := 4) rfl (gx_1 E g u5.2)) rfl hl.1 rfl (Nat.le_of_ble_eq_true rfl) dX8_ask_122 ⟨Nat.zero_le _, Nat.zero_le _⟩) hS (fun H locs hP hS => ?_)
        refine lv_istore (lv' := [(9, .int (t_X4_onPlace g u5.2 u5.1 (if (x2 - 1) < 2 then (x2 - 1) else 2))), (8, .int (t_X4_onPlace g u5.2 u5.1 (if (x2 - 1) < 1 then (x2 - 1) else 1))), (7, .int (t_X4_onPlace g u5.2 u5.1 0)), (6, .int u5.1), (0, .ref (E.2.1 14)), (2, .int x2), (4, .int x4), (5, .int x5)]) hx hb dX8_ask_125 hl (by decide) rfl (fun ls hl => ?_)
        refine lv_aload_n hx hb dX8_ask_127 rfl (lv_at hl 4 rfl) ?_
        refine lv_iload hx hb dX8_ask_128 (lv_at hl 2 rfl) ?_
        refine lv_iload hx hb dX8_ask_130 (lv_at hl 1 rfl) ?_
        refine lv_iload hx hb dX8_ask_132 (lv_at hl 0 rfl) ?_
        refine xci (xRunV (rest := []) (As := [.int (t_X4_onPlace g u5.2 u5.1 0), .int (t_X4_onPlace g u5.2 u5.1 (if (x2 - 1) < 1 then (x2 - 1) else 1)), .int (t_X4_onPlace g u5.2 u5.1 (if (x2 - 1) < 2 then (x2 - 1) else 2))]) (C := RX8) (k := 3) C0 (c_X8_keyOf l E g u5.2 (t_X4_onPlace g u5.2 u5.1 0) (t_X4_onPlace g u5.2 u5.1 (if (x2 - 1) < 1 then (x2 - 1) else 1)) (t_X4_onPlace g u5.2 u5.1 (if (x2 - 1) < 2 then (x2 - 1) else 2))) bw327 bw338 bw263 bw339 bw340 hd_X8_keyOf ⟨Nat.le_of_ble_eq_true rfl, Nat.le_of_ble_eq_true rfl⟩ hP (wX_D hD) hS (va_recv hK hP (ci := 8) rfl (gx_14 E g u5.2)) rfl hl.1 rfl (Nat.le_of_ble_eq_true rfl) dX8_ask_134 ⟨Nat.zero_le _, Nat.zero_le _⟩) hS (fun H locs hP hS => ?_)
        refine lv_istore (lv' := [(10, .int (t_X8_keyOf g u5.2 (t_X4_onPlace g u5.2 u5.1 0) (t_X4_onPlace g u5.2 u5.1 (if (x2 - 1) < 1 then (x2 - 1) else 1)) (t_X4_onPlace g u5.2 u5.1 (if (x2 - 1) < 2 then (x2 - 1) else 2)))), (9, .int (t_X4_onPlace g u5.2 u5.1 (if (x2 - 1) < 2 then (x2 - 1) else 2))), (8, .int (t_X4_onPlace g u5.2 u5.1 (if (x2 - 1) < 1 then (x2 - 1) else 1))), (7, .int (t_X4_onPlace g u5.2 u5.1 0)), (6, .int u5.1), (0, .ref (E.2.1 14)), (2, .int x2), (4, .int x4), (5, .int x5)]) hx hb dX8_ask_137 hl (by decide) rfl (fun ls hl => ?_)
        refine lv_aload_n hx hb dX8_ask_139 rfl (lv_at hl 5 rfl) ?_
        refine va_get (C := RX8) (T := TX8) (N := 8) hx hb hw bfX80 hown hK hP 14 (gx_14 E g u5.2) rfl 3 (by decide) (hw _ bw248) (fun _ h9 => h9) rfl dX8_ask_140 ?_
        refine lv_iload hx hb dX8_ask_143 (lv_at hl 0 rfl) ?_
        refine lv_aload_n hx hb dX8_ask_145 rfl (lv_at hl 5 rfl) ?_
        refine va_get (C := RX8) (T := TX8) (N := 8) hx hb hw bfX80 hown hK hP 14 (gx_14 E g u5.2) rfl 3 (by decide) (hw _ bw248) (fun _ h9 => h9) rfl dX8_ask_146 ?_
        refine lv_iload hx hb dX8_ask_149 (lv_at hl 0 rfl) ?_
        refine xci (xRunN (rest := [.int (t_X8_keyOf g u5.2 (t_X4_onPlace g u5.2 u5.1 0) (t_X4_onPlace g u5.2 u5.1 (if (x2 - 1) < 1 then (x2 - 1) else 1)) (t_X4_onPlace g u5.2 u5.1 (if (x2 - 1) < 2 then (x2 - 1) else 2))), .ref (E.2.1 15)]) (As := [.ref (E.2.1 15), .int (t_X8_keyOf g u5.2 (t_X4_onPlace g u5.2 u5.1 0) (t_X4_onPlace g u5.2 u5.1 (if (x2 - 1) < 1 then (x2 - 1) else 1)) (t_X4_onPlace g u5.2 u5.1 (if (x2 - 1) < 2 then (x2 - 1) else 2)))]) (k := 2) C0 (c_at l E (wX E g u5.2) 15 (t_X8_keyOf g u5.2 (t_X4_onPlace g u5.2 u5.1 0) (t_X4_onPlace g u5.2 u5.1 (if (x2 - 1) < 1 then (x2 - 1) else 1)) (t_X4_onPlace g u5.2 u5.1 (if (x2 - 1) < 2 then (x2 - 1) else 2))) (gx_15 E g u5.2) (Nat.le_of_ble_eq_true rfl)) bw9 nw21 bw13 bw12 hd_X11_at ⟨Nat.le_of_ble_eq_true rfl, Nat.le_of_ble_eq_true rfl⟩ hP (wX_D hD) hS rfl hl.1 rfl (Nat.le_of_ble_eq_true rfl) dX8_ask_151 ⟨Nat.zero_le _, Nat.zero_le _⟩) hS (fun H locs hP hS => ?_)
        refine lv_iload hx hb dX8_ask_154 (lv_at hl 7 rfl) ?_
        refine lv_iand hx hb dX8_ask_156 ?_
        refine xcv (xRunN (rest := []) (As := [.ref (E.2.1 15), .int (t_X8_keyOf g u5.2 (t_X4_onPlace g u5.2 u5.1 0) (t_X4_onPlace g u5.2 u5.1 (if (x2 - 1) < 1 then (x2 - 1) else 1)) (t_X4_onPlace g u5.2 u5.1 (if (x2 - 1) < 2 then (x2 - 1) else 2))), .int ((atF 729 (u5.2 15) (t_X8_keyOf g u5.2 (t_X4_onPlace g u5.2 u5.1 0) (t_X4_onPlace g u5.2 u5.1 (if (x2 - 1) < 1 then (x2 - 1) else 1)) (t_X4_onPlace g u5.2 u5.1 (if (x2 - 1) < 2 then (x2 - 1) else 2)))) &&& x4)]) (k := 3) C0 (c_put l E (wX E g u5.2) 15 (t_X8_keyOf g u5.2 (t_X4_onPlace g u5.2 u5.1 0) (t_X4_onPlace g u5.2 u5.1 (if (x2 - 1) < 1 then (x2 - 1) else 1)) (t_X4_onPlace g u5.2 u5.1 (if (x2 - 1) < 2 then (x2 - 1) else 2))) ((atF 729 (u5.2 15) (t_X8_keyOf g u5.2 (t_X4_onPlace g u5.2 u5.1 0) (t_X4_onPlace g u5.2 u5.1 (if (x2 - 1) < 1 then (x2 - 1) else 1)) (t_X4_onPlace g u5.2 u5.1 (if (x2 - 1) < 2 then (x2 - 1) else 2)))) &&& x4) (gx_15 E g u5.2) (Nat.le_of_ble_eq_true rfl) (sx_a15 E g u5.2 (putF 729 (u5.2 15) (t_X8_keyOf g u5.2 (t_X4_onPlace g u5.2 u5.1 0) (t_X4_onPlace g u5.2 u5.1 (if (x2 - 1) < 1 then (x2 - 1) else 1)) (t_X4_onPlace g u5.2 u5.1 (if (x2 - 1) < 2 then (x2 - 1) else 2))) ((atF 729 (u5.2 15) (t_X8_keyOf g u5.2 (t_X4_onPlace g u5.2 u5.1 0) (t_X4_onPlace g u5.2 u5.1 (if (x2 - 1) < 1 then (x2 - 1) else 1)) (t_X4_onPlace g u5.2 u5.1 (if (x2 - 1) < 2 then (x2 - 1) else 2)))) &&& x4)))) bw14 nw22 bw13 bw23 hd_X11_put ⟨Nat.le_of_ble_eq_true rfl, Nat.le_of_ble_eq_true rfl⟩ hP (wX_D hD) hS rfl hl.1 rfl (Nat.le_of_ble_eq_true rfl) dX8_ask_157 ⟨Nat.zero_le _, Nat.zero_le _⟩) hS (fun H locs hP hS => ?_)
        refine lv_iinc (v := (x5 + (-1))) (lv' := [(5, .int (x5 + (-1))), (10, .int (t_X8_keyOf g u5.2 (t_X4_onPlace g u5.2 u5.1 0) (t_X4_onPlace g u5.2 u5.1 (if (x2 - 1) < 1 then (x2 - 1) else 1)) (t_X4_onPlace g u5.2 u5.1 (if (x2 - 1) < 2 then (x2 - 1) else 2)))), (9, .int (t_X4_onPlace g u5.2 u5.1 (if (x2 - 1) < 2 then (x2 - 1) else 2))), (8, .int (t_X4_onPlace g u5.2 u5.1 (if (x2 - 1) < 1 then (x2 - 1) else 1))), (7, .int (t_X4_onPlace g u5.2 u5.1 0)), (6, .int u5.1), (0, .ref (E.2.1 14)), (2, .int x2), (4, .int x4)]) hx hb dX8_ask_160 hl (k := 8) rfl rfl (by decide) rfl (fun ls hl => ?_)
        refine lv_goto (tgt := 65) hx hb dX8_ask_163 (by decide) ?_
        exact ih g (upA u5.2 15 (putF 729 (u5.2 15) (t_X8_keyOf g u5.2 (t_X4_onPlace g u5.2 u5.1 0) (t_X4_onPlace g u5.2 u5.1 (if (x2 - 1) < 1 then (x2 - 1) else 1)) (t_X4_onPlace g u5.2 u5.1 (if (x2 - 1) < 2 then (x2 - 1) else 2))) ((atF 729 (u5.2 15) (t_X8_keyOf g u5.2 (t_X4_onPlace g u5.2 u5.1 0) (t_X4_onPlace g u5.2 u5.1 (if (x2 - 1) < 1 then (x2 - 1) else 1)) (t_X4_onPlace g u5.2 u5.1 (if (x2 - 1) < 2 then (x2 - 1) else 2)))) &&& x4))) x2 x4 (x5 + (-1)) _ _ _ hP hS (lv_sub hl [6, 7, 8, 0] rfl) hf
  have B6 : ∀ (n : Nat) (g : xG) (a : xA) (x1 : Int32) (x2 : Int32) (x3 : Int32) (x4 : Int32) (x5 : Int32) (H : Heap) (locs : List Loc) (ls : Array Slot), va_P E.1 vwCl (wX E g a) H → va_S A s.heap H locs → lv_has ls 11 [(0, .ref (E.2.1 14)), (1, .int x1), (2, .int x2), (3, .int x3), (4, .int x4), (5, .int x5)] → f_X8_ask_6 n g a x1 x2 x3 x4 x5 = some res → W p l e ({ frames := 3, cells := 0, slots := 0, locals := 66 }) s m ([.ref (E.2.1 14), .int v1, .int v2, .int v3] : List Value).toArray below meth c H locs 0 0 (MQ below ((xQv E (wX E res.1 res.2)) A) ([.ref (E.2.1 14), .int v1, .int v2, .int v3] : List Value).toArray s 0 0 A) (F0 m 6 ls []) := by
    intro n
    induction n with
    | zero => intro g a x1 x2 x3 x4 x5 H locs ls hP hS hl hf; exact absurd (show (none : Option (xG × xA)) = some res from hf) (by intro h; cases h)
    | succ n ih =>
      intro g a x1 x2 x3 x4 x5 H locs ls hP hS hl hf
      replace hf := (e_X8_ask_6 n g a x1 x2 x3 x4 x5).symm.trans hf
      refine lv_iload hx hb dX8_ask_6 (lv_at hl 5 rfl) ?_
      refine lv_aload_n hx hb dX8_ask_8 rfl (lv_at hl 0 rfl) ?_
      refine va_get (C := RX8) (T := TX8) (N := 8) hx hb hw bfX80 hown hK hP 14 (gx_14 E g a) rfl 0 (by decide) (hw _ bw252) (fun _ h9 => h9) rfl dX8_ask_9 ?_
      refine lv_aload_n hx hb dX8_ask_12 rfl (lv_at hl 0 rfl) ?_
      refine va_get (C := RX8) (T := TX8) (N := 8) hx hb hw bfX80 hown hK hP 14 (gx_14 E g a) rfl 0 (by decide) (hw _ bw252) (fun _ h9 => h9) rfl dX8_ask_13 ?_
      refine xci (xRunV (rest := [.ref (E.2.1 1), .int x5]) (As := []) (C := RX4) (k := 0) C0 (c_X4_widest l E g a) bw96 bw329 bw22 bw105 bw106 hd_X4_widest ⟨Nat.le_of_ble_eq_true rfl, Nat.le_of_ble_eq_true rfl⟩ hP (wX_D hD) hS (va_recv hK hP (ci := 4) rfl (gx_1 E g a)) rfl hl.1 rfl (Nat.le_of_ble_eq_true rfl) dX8_ask_16 ⟨Nat.zero_le _, Nat.zero_le _⟩) hS (fun H locs hP hS => ?_)
      refine xci (xRunV (rest := [.int x5]) (As := [.int (t_X4_widest g a)]) (C := RX4) (k := 1) C0 (c_X4_power l E g a (t_X4_widest g a)) bw55 bw334 bw22 bw58 bw59 hd_X4_power ⟨Nat.le_of_ble_eq_true rfl, Nat.le_of_ble_eq_true rfl⟩ hP (wX_D hD) hS (va_recv hK hP (ci := 4) rfl (gx_1 E g a)) rfl hl.1 rfl (Nat.le_of_ble_eq_true rfl) dX8_ask_19 ⟨Nat.zero_le _, Nat.zero_le _⟩) hS (fun H locs hP hS => ?_)
      refine lv_icmp_ge (tgt := 54) hx hb dX8_ask_22 (by decide) (fun c1 => ?_) (fun c1 => ?_)
      · replace hf := (if_pos c1).symm.trans hf
        refine lv_aload_n hx hb dX8_ask_54 rfl (lv_at hl 0 rfl) ?_
        refine va_get (C := RX8) (T := TX8) (N := 8) hx hb hw bfX80 hown hK hP 14 (gx_14 E g a) rfl 2 (by decide) (hw _ bw254) (fun _ h9 => h9) rfl dX8_ask_55 ?_
        refine lv_iload_n hx hb dX8_ask_58 rfl (lv_at hl 1 rfl) ?_
        refine lv_iload_n hx hb dX8_ask_59 rfl (lv_at hl 3 rfl) ?_
        obtain ⟨u2, e3, hf⟩ := bd_some hf
        refine xci (xRunV (rest := []) (As := [.int x1, .int x3]) (C := RX0) (k := 2) C0 (c_X0_beginChoices l E g a x1 x3 e3) bw15 bw335 bw30 bw46 bw47 hd_X0_beginChoices ⟨Nat.le_of_ble_eq_true rfl, Nat.le_of_ble_eq_true rfl⟩ hP (wX_D hD) hS (va_recv hK hP (ci := 0) rfl (gx_7 E g a)) rfl hl.1 rfl (Nat.le_of_ble_eq_true rfl) dX8_ask_60 ⟨Nat.zero_le _, Nat.zero_le _⟩) hS (fun H locs hP hS => ?_)
        refine lv_istore (lv' := [(5, .int u2.1), (0, .ref (E.2.1 14)), (1, .int x1), (2, .int x2), (3, .int x3), (4, .int x4)]) hx hb dX8_ask_63 hl (by decide) rfl (fun ls hl => ?_)
        exact B65 fu u2.2.1 u2.2.2 x2 x4 u2.1 _ _ _ hP hS (lv_sub hl [1, 3, 5, 0] rfl) hf
      · replace hf := (if_neg c1).symm.trans hf
        refine lv_iload hx hb dX8_ask_25 (lv_at hl 4 rfl) ?_
        refine lv_iload_n hx hb dX8_ask_27 rfl (lv_at hl 3 rfl) ?_
        refine lv_iload hx hb dX8_ask_28 (lv_at hl 5 rfl) ?_
        refine lv_ishl hx hb dX8_ask_30 ?_
        refine lv_ior hx hb dX8_ask_31 ?_
        refine lv_istore (lv' := [(4, .int (x4 ||| ((x3 : Int32) <<< (x5 &&& 31)))), (0, .ref (E.2.1 14)), (1, .int x1), (2, .int x2), (3, .int x3), (5, .int x5)]) hx hb dX8_ask_32 hl (by decide) rfl (fun ls hl => ?_)
        refine lv_iload hx hb dX8_ask_34 (lv_at hl 5 rfl) ?_
        refine lv_iconst (v := 1) hx hb dX8_ask_36 (by decide) ?_
        refine lv_aload_n hx hb dX8_ask_37 rfl (lv_at hl 1 rfl) ?_
        refine va_get (C := RX8) (T := TX8) (N := 8) hx hb hw bfX80 hown hK hP 14 (gx_14 E g a) rfl 0 (by decide) (hw _ bw252) (fun _ h9 => h9) rfl dX8_ask_38 ?_
        refine lv_iload_n hx hb dX8_ask_41 rfl (lv_at hl 3 rfl) ?_
        refine xci (xRunV (rest := [.int 1, .int x5]) (As := [.int x2]) (C := RX4) (k := 1) C0 (c_X4_power l E g a x2) bw55 bw334 bw22 bw58 bw59 hd_X4_power ⟨Nat.le_of_ble_eq_true rfl, Nat.le_of_ble_eq_true rfl⟩ hP (wX_D hD) hS (va_recv hK hP (ci := 4) rfl (gx_1 E g a)) rfl hl.1 rfl (Nat.le_of_ble_eq_true rfl) dX8_ask_42 ⟨Nat.zero_le _, Nat.zero_le _⟩) hS (fun H locs hP hS => ?_)
        refine va_mmax hx hb (hml.trans hl.1.symm) hown (hw _ bw330) (hw _ bw331) (hw _ bw124) (hw _ bw332) (Nat.le_of_ble_eq_true rfl) (Nat.le_of_ble_eq_true rfl) (Nat.zero_le _) (Nat.zero_le _) dX8_ask_45 ?_
        refine lv_iadd hx hb dX8_ask_48 ?_
        refine lv_istore (lv' := [(5, .int (x5 + (if 1 < (t_X4_power g a x2) then (t_X4_power g a x2) else 1))), (4, .int (x4 ||| ((x3 : Int32) <<< (x5 &&& 31)))), (0, .ref (E.2.1 14)), (1, .int x1), (2, .int x2), (3, .int x3)]) hx hb dX8_ask_49 hl (by decide) rfl (fun ls hl => ?_)
        refine lv_goto (tgt := 6) hx hb dX8_ask_51 (by decide) ?_
        exact ih g a x1 x2 x3 (x4 ||| ((x3 : Int32) <<< (x5 &&& 31))) (x5 + (if 1 < (t_X4_power g a x2) then (t_X4_power g a x2) else 1)) _ _ _ hP hS (lv_sub hl [2, 3, 4, 5, 1, 0] rfl) hf
  refine lv_iconst (v := 0) hx hb dX8_ask_0 (by decide) ?_
  refine lv_istore (lv' := [(4, .int 0), (0, .ref (E.2.1 14)), (1, .int v1), (2, .int v2), (3, .int v3)]) hx hb dX8_ask_1 hl (by decide) rfl (fun ls hl => ?_)
  refine lv_iconst (v := 0) hx hb dX8_ask_3 (by decide) ?_
  refine lv_istore (lv' := [(5, .int 0), (4, .int 0), (0, .ref (E.2.1 14)), (1, .int v1), (2, .int v2), (3, .int v3)]) hx hb dX8_ask_4 hl (by decide) rfl (fun ls hl => ?_)
  exact B6 fu g a v1 v2 v3 0 0 _ _ _ hP hS (lv_sub hl [2, 3, 4, 5, 1, 0] rfl) hf
def f_X8_allowAll_2 (g : xG) : Nat → xA → Int32 → Option (xA)
  | 0, _, _ => none
  | n + 1, a, x1 => (if 27 ≤ x1 then some a else ck (inB x1 27) (f_X8_allowAll_2 g n (upA a 16 (upd (a 16) (x1 : Int32).toNatClampNeg (t_X4_allValues g a))) (x1 + 1)))
theorem e_X8_allowAll_2 (g : xG) (n : Nat) (a : xA) (x1 : Int32) : f_X8_allowAll_2 g (n + 1) a x1 = (if 27 ≤ x1 then some a else ck (inB x1 27) (f_X8_allowAll_2 g n (upA a 16 (upd (a 16) (x1 : Int32).toNatClampNeg (t_X4_allValues g a))) (x1 + 1))) := rfl
def f_X8_allowAll (g : xG) (a : xA) : Option (xA) := f_X8_allowAll_2 g fu a 0
set_option maxRecDepth 100000 in
set_option maxHeartbeats 40000000 in
theorem c_X8_allowAll (l : Launch) (E : xE) (g : xG) (a : xA) {res : xA} (hf : f_X8_allowAll g a = some res) : xM l E yX8_allowAll cX8_allowAll 2 none 1 20 [.ref (E.2.1 14)] (wX E g a) (xQv E (wX E g res)) := by
  unfold f_X8_allowAll at hf
  refine xM_of (by decide) (Nat.le_of_ble_eq_true rfl) ?_
  intro p e s m below meth c A hx hb hr hml hts hown hlocks hA hD hP hK hN hS ls hl
  have hw : ∀ w ∈ BW, w.before _ s = true := fun w h => hts w (List.mem_cons_of_mem _ h)
  have C0 : xCtx E p m c cX8_allowAll 2 s _ RX8 A yX8_allowAll cX8_allowAll 2 none := ⟨hx, hb, hml, hown, hts, hA, hK, hN⟩
  have hl : lv_has ls 2 [(0, .ref (E.2.1 14))] := hl
  have B2 : ∀ (n : Nat) (a : xA) (x1 : Int32) (H : Heap) (locs : List Loc) (ls : Array Slot), va_P E.1 vwCl (wX E g a) H → va_S A s.heap H locs → lv_has ls 2 [(0, .ref (E.2.1 14)), (1, .int x1)] → f_X8_allowAll_2 g n a x1 = some res → W p l e ({ frames := 1, cells := 0, slots := 0, locals := 20 }) s m ([.ref (E.2.1 14)] : List Value).toArray below meth c H locs 0 0 (MQ below ((xQv E (wX E g res)) A) ([.ref (E.2.1 14)] : List Value).toArray s 0 0 A) (F0 m 2 ls []) := by
    intro n
    induction n with
    | zero => intro a x1 H locs ls hP hS hl hf; exact absurd (show (none : Option (xA)) = some res from hf) (by intro h; cases h)
    | succ n ih =>
      intro a x1 H locs ls hP hS hl hf
      replace hf := (e_X8_allowAll_2 g n a x1).symm.trans hf
      refine lv_iload_n hx hb dX8_allowAll_2 rfl (lv_at hl 1 rfl) ?_
      refine lv_aload_n hx hb dX8_allowAll_3 rfl (lv_at hl 0 rfl) ?_
      refine va_get (C := RX8) (T := TX8) (N := 8) hx hb hw bfX80 hown hK hP 14 (gx_14 E g a) rfl 4 (by decide) (hw _ bw249) (fun _ h9 => h9) rfl dX8_allowAll_4 ?_
      refine va_alen (v := 27) hx hb hK hP 16 0 (gx_16 E g a) rfl rfl dX8_allowAll_7 ?_
      refine lv_icmp_ge (tgt := 30) hx hb dX8_allowAll_8 (by decide) (fun c1 => ?_) (fun c1 => ?_)
      · replace hf := (if_pos c1).symm.trans hf
        exact xv_retS (fw := (fun r => wX E g r)) hx hb hr hlocks (Option.some.inj hf) hP hS dX8_allowAll_30
      · replace hf := (if_neg c1).symm.trans hf
        refine lv_aload_n hx hb dX8_allowAll_11 rfl (lv_at hl 0 rfl) ?_
        refine va_get (C := RX8) (T := TX8) (N := 8) hx hb hw bfX80 hown hK hP 14 (gx_14 E g a) rfl 4 (by decide) (hw _ bw249) (fun _ h9 => h9) rfl dX8_allowAll_12 ?_
        refine lv_iload_n hx hb dX8_allowAll_15 rfl (lv_at hl 1 rfl) ?_
        refine lv_aload_n hx hb dX8_allowAll_16 rfl (lv_at hl 0 rfl) ?_
        refine va_get (C := RX8) (T := TX8) (N := 8) hx hb hw bfX80 hown hK hP 14 (gx_14 E g a) rfl 0 (by decide) (hw _ bw252) (fun _ h9 => h9) rfl dX8_allowAll_17 ?_
        refine xci (xRunV (rest := [.int x1, .ref (E.2.1 16)]) (As := []) (C := RX4) (k := 0) C0 (c_X4_allValues l E g a) bw169 bw343 bw22 bw172 bw173 hd_X4_allValues ⟨Nat.le_of_ble_eq_true rfl, Nat.le_of_ble_eq_true rfl⟩ hP (wX_D hD) hS (va_recv hK hP (ci := 4) rfl (gx_1 E g a)) rfl hl.1 rfl (Nat.le_of_ble_eq_true rfl) dX8_allowAll_20 ⟨Nat.zero_le _, Nat.zero_le _⟩) hS (fun H locs hP hS => ?_)
        obtain ⟨k2, hf⟩ := ck_some hf
        refine va_iast hx hb hK hP (wX_D hD) hS 16 0 (gx_16 E g a) rfl (inB_in k2) dX8_allowAll_23 (fun H locs hP _ hS => ?_)
        have hP := xP_eq (sx_a16 E g a (upd (a 16) (x1 : Int32).toNatClampNeg (t_X4_allValues g a))) hP
        refine lv_iinc (v := (x1 + 1)) (lv' := [(1, .int (x1 + 1)), (0, .ref (E.2.1 14))]) hx hb dX8_allowAll_24 hl (k := 1) rfl rfl (by decide) rfl (fun ls hl => ?_)
        refine lv_goto (tgt := 2) hx hb dX8_allowAll_27 (by decide) ?_
        exact ih (upA a 16 (upd (a 16) (x1 : Int32).toNatClampNeg (t_X4_allValues g a))) (x1 + 1) _ _ _ hP hS (lv_sub hl [1, 0] rfl) hf
  refine lv_iconst (v := 0) hx hb dX8_allowAll_0 (by decide) ?_
  refine lv_istore_n (lv' := [(1, .int 0), (0, .ref (E.2.1 14))]) hx hb dX8_allowAll_1 rfl hl (by decide) rfl (fun ls hl => ?_)
  exact B2 fu a 0 _ _ _ hP hS (lv_sub hl [1, 0] rfl) hf
def f_X8_begin_38 : Nat → xG → xA → Int32 → Int32 → Int32 → Option (xG × xA)
  | 0, _, _, _, _, _ => none
  | n + 1, g, a, x1, x2, x3 => (if (g 1) ≤ x3 then Option.bind (f_X8_allowAll g a) (fun u4 => some (g, u4)) else (if x3 = x2 then f_X8_begin_38 n g a x1 x2 (x3 + 1) else Option.bind (f_X8_ask g a x1 (t_X10_placesOf g a x3) (t_X10_tuplesOf g a x3)) (fun u7 => f_X8_begin_38 n u7.1 u7.2 x1 x2 (x3 + 1))))
theorem e_X8_begin_38 (n : Nat) (g : xG) (a : xA) (x1 : Int32) (x2 : Int32) (x3 : Int32) : f_X8_begin_38 (n + 1) g a x1 x2 x3 = (if (g 1) ≤ x3 then Option.bind (f_X8_allowAll g a) (fun u4 => some (g, u4)) else (if x3 = x2 then f_X8_begin_38 n g a x1 x2 (x3 + 1) else Option.bind (f_X8_ask g a x1 (t_X10_placesOf g a x3) (t_X10_tuplesOf g a x3)) (fun u7 => f_X8_begin_38 n u7.1 u7.2 x1 x2 (x3 + 1)))) := rfl
def f_X8_begin_14 : Nat → xG → xA → Int32 → Int32 → Int32 → Option (xG × xA)
  | 0, _, _, _, _, _ => none
  | n + 1, g, a, x1, x2, x3 => (if 729 ≤ x3 then f_X8_begin_38 fu g a x1 x2 0 else ck (inB x3 729) (f_X8_begin_14 n g (upA a 15 (upd (a 15) (x3 : Int32).toNatClampNeg (-1))) x1 x2 (x3 + 1)))
theorem e_X8_begin_14 (n : Nat) (g : xG) (a : xA) (x1 : Int32) (x2 : Int32) (x3 : Int32) : f_X8_begin_14 (n + 1) g a x1 x2 x3 = (if 729 ≤ x3 then f_X8_begin_38 fu g a x1 x2 0 else ck (inB x3 729) (f_X8_begin_14 n g (upA a 15 (upd (a 15) (x3 : Int32).toNatClampNeg (-1))) x1 x2 (x3 + 1))) := rfl
def f_X8_begin (g : xG) (a : xA) (v1 : Int32) (v2 : Int32) : Option (xG × xA) := f_X8_begin_14 fu (upd g 5 (t_X4_power g a v1)) a v1 v2 0
set_option maxRecDepth 100000 in
set_option maxHeartbeats 40000000 in
theorem c_X8_begin (l : Launch) (E : xE) (g : xG) (a : xA) (v1 : Int32) (v2 : Int32) {res : xG × xA} (hf : f_X8_begin g a v1 v2 = some res) : xM l E yX8_begin cX8_begin 4 none 4 96 [.ref (E.2.1 14), .int v1, .int v2] (wX E g a) (xQv E (wX E res.1 res.2)) := by
  unfold f_X8_begin at hf
  refine xM_of (by decide) (Nat.le_of_ble_eq_true rfl) ?_
  intro p e s m below meth c A hx hb hr hml hts hown hlocks hA hD hP hK hN hS ls hl
  have hw : ∀ w ∈ BW, w.before _ s = true := fun w h => hts w (List.mem_cons_of_mem _ h)
  have C0 : xCtx E p m c cX8_begin 4 s _ RX8 A yX8_begin cX8_begin 4 none := ⟨hx, hb, hml, hown, hts, hA, hK, hN⟩
  have hl : lv_has ls 4 [(0, .ref (E.2.1 14)), (1, .int v1), (2, .int v2)] := hl
  have B38 : ∀ (n : Nat) (g : xG) (a : xA) (x1 : Int32) (x2 : Int32) (x3 : Int32) (H : Heap) (locs : List Loc) (ls : Array Slot), va_P E.1 vwCl (wX E g a) H → va_S A s.heap H locs → lv_has ls 4 [(0, .ref (E.2.1 14)), (1, .int x1), (2, .int x2), (3, .int x3)] → f_X8_begin_38 n g a x1 x2 x3 = some res → W p l e ({ frames := 4, cells := 0, slots := 0, locals := 96 }) s m ([.ref (E.2.1 14), .int v1, .int v2] : List Value).toArray below meth c H locs 0 0 (MQ below ((xQv E (wX E res.1 res.2)) A) ([.ref (E.2.1 14), .int v1, .int v2] : List Value).toArray s 0 0 A) (F0 m 38 ls []) := by
    intro n
    induction n with
    | zero => intro g a x1 x2 x3 H locs ls hP hS hl hf; exact absurd (show (none : Option (xG × xA)) = some res from hf) (by intro h; cases h)
    | succ n ih =>
      intro g a x1 x2 x3 H locs ls hP hS hl hf
      replace hf := (e_X8_begin_38 n g a x1 x2 x3).symm.trans hf
      refine lv_iload_n hx hb dX8_begin_38 rfl (lv_at hl 3 rfl) ?_
      refine lv_aload_n hx hb dX8_begin_39 rfl (lv_at hl 0 rfl) ?_
      refine va_get (C := RX8) (T := TX8) (N := 8) hx hb hw bfX80 hown hK hP 14 (gx_14 E g a) rfl 1 (by decide) (hw _ bw253) (fun _ h9 => h9) rfl dX8_begin_40 ?_
      refine va_get (C := RX10) (T := TX10) (N := 4) hx hb hw bfX100 hown hK hP 4 (gx_4 E g a) rfl 0 (by decide) (hw _ bw344) (fun _ h9 => h9) rfl dX8_begin_43 ?_
      refine lv_icmp_ge (tgt := 81) hx hb dX8_begin_46 (by decide) (fun c3 => ?_) (fun c3 => ?_)
      · replace hf := (if_pos c3).symm.trans hf
        refine lv_aload_n hx hb dX8_begin_81 rfl (lv_at hl 0 rfl) ?_
        obtain ⟨u4, e5, hf⟩ := bd_some hf
        refine xcv (xRunV (rest := []) (As := []) (C := RX8) (k := 0) C0 (c_X8_allowAll l E g a e5) bw342 bw350 bw263 bw351 bw352 hd_X8_allowAll ⟨Nat.le_of_ble_eq_true rfl, Nat.le_of_ble_eq_true rfl⟩ hP (wX_D hD) hS (va_recv hK hP (ci := 8) rfl (gx_14 E g a)) rfl hl.1 rfl (Nat.le_of_ble_eq_true rfl) dX8_begin_82 ⟨Nat.zero_le _, Nat.zero_le _⟩) hS (fun H locs hP hS => ?_)
        exact xv_retS (fw := (fun r => wX E r.1 r.2)) hx hb hr hlocks (Option.some.inj hf) hP hS dX8_begin_85
      · replace hf := (if_neg c3).symm.trans hf
        refine lv_iload_n hx hb dX8_begin_49 rfl (lv_at hl 3 rfl) ?_
        refine lv_iload_n hx hb dX8_begin_50 rfl (lv_at hl 2 rfl) ?_
        refine lv_icmp_eq (tgt := 75) hx hb dX8_begin_51 (by decide) (fun c6 => ?_) (fun c6 => ?_)
        · replace hf := (if_pos c6).symm.trans hf
          refine lv_iinc (v := (x3 + 1)) (lv' := [(3, .int (x3 + 1)), (0, .ref (E.2.1 14)), (1, .int x1), (2, .int x2)]) hx hb dX8_begin_75 hl (k := 3) rfl rfl (by decide) rfl (fun ls hl => ?_)
          refine lv_goto (tgt := 38) hx hb dX8_begin_78 (by decide) ?_
          exact ih g a x1 x2 (x3 + 1) _ _ _ hP hS (lv_sub hl [1, 2, 3, 0] rfl) hf
        · replace hf := (if_neg c6).symm.trans hf
          refine lv_aload_n hx hb dX8_begin_54 rfl (lv_at hl 0 rfl) ?_
          refine lv_iload_n hx hb dX8_begin_55 rfl (lv_at hl 1 rfl) ?_
          refine lv_aload_n hx hb dX8_begin_56 rfl (lv_at hl 0 rfl) ?_
          refine va_get (C := RX8) (T := TX8) (N := 8) hx hb hw bfX80 hown hK hP 14 (gx_14 E g a) rfl 1 (by decide) (hw _ bw253) (fun _ h9 => h9) rfl dX8_begin_57 ?_
          refine lv_iload_n hx hb dX8_begin_60 rfl (lv_at hl 3 rfl) ?_
          refine xci (xRunV (rest := [.int x1, .ref (E.2.1 14)]) (As := [.int x3]) (C := RX10) (k := 1) C0 (c_X10_placesOf l E g a x3) bw117 bw345 bw115 bw133 bw134 hd_X10_placesOf ⟨Nat.le_of_ble_eq_true rfl, Nat.le_of_ble_eq_true rfl⟩ hP (wX_D hD) hS (va_recv hK hP (ci := 10) rfl (gx_4 E g a)) rfl hl.1 rfl (Nat.le_of_ble_eq_true rfl) dX8_begin_61 ⟨Nat.zero_le _, Nat.zero_le _⟩) hS (fun H locs hP hS => ?_)
          refine lv_aload_n hx hb dX8_begin_64 rfl (lv_at hl 0 rfl) ?_
          refine va_get (C := RX8) (T := TX8) (N := 8) hx hb hw bfX80 hown hK hP 14 (gx_14 E g a) rfl 1 (by decide) (hw _ bw253) (fun _ h9 => h9) rfl dX8_begin_65 ?_
          refine lv_iload_n hx hb dX8_begin_68 rfl (lv_at hl 3 rfl) ?_
          refine xci (xRunV (rest := [.int (t_X10_placesOf g a x3), .int x1, .ref (E.2.1 14)]) (As := [.int x3]) (C := RX10) (k := 1) C0 (c_X10_tuplesOf l E g a x3) bw176 bw346 bw115 bw180 bw181 hd_X10_tuplesOf ⟨Nat.le_of_ble_eq_true rfl, Nat.le_of_ble_eq_true rfl⟩ hP (wX_D hD) hS (va_recv hK hP (ci := 10) rfl (gx_4 E g a)) rfl hl.1 rfl (Nat.le_of_ble_eq_true rfl) dX8_begin_69 ⟨Nat.zero_le _, Nat.zero_le _⟩) hS (fun H locs hP hS => ?_)
          obtain ⟨u7, e8, hf⟩ := bd_some hf
          refine xcv (xRunV (rest := []) (As := [.int x1, .int (t_X10_placesOf g a x3), .int (t_X10_tuplesOf g a x3)]) (C := RX8) (k := 3) C0 (c_X8_ask l E g a x1 (t_X10_placesOf g a x3) (t_X10_tuplesOf g a x3) e8) bw341 bw347 bw263 bw348 bw349 hd_X8_ask ⟨Nat.le_of_ble_eq_true rfl, Nat.le_of_ble_eq_true rfl⟩ hP (wX_D hD) hS (va_recv hK hP (ci := 8) rfl (gx_14 E g a)) rfl hl.1 rfl (Nat.le_of_ble_eq_true rfl) dX8_begin_72 ⟨Nat.zero_le _, Nat.zero_le _⟩) hS (fun H locs hP hS => ?_)
          refine lv_iinc (v := (x3 + 1)) (lv' := [(3, .int (x3 + 1)), (0, .ref (E.2.1 14)), (1, .int x1), (2, .int x2)]) hx hb dX8_begin_75 hl (k := 3) rfl rfl (by decide) rfl (fun ls hl => ?_)
          refine lv_goto (tgt := 38) hx hb dX8_begin_78 (by decide) ?_
          exact ih u7.1 u7.2 x1 x2 (x3 + 1) _ _ _ hP hS (lv_sub hl [1, 2, 3, 0] rfl) hf
  have B14 : ∀ (n : Nat) (g : xG) (a : xA) (x1 : Int32) (x2 : Int32) (x3 : Int32) (H : Heap) (locs : List Loc) (ls : Array Slot), va_P E.1 vwCl (wX E g a) H → va_S A s.heap H locs → lv_has ls 4 [(0, .ref (E.2.1 14)), (1, .int x1), (2, .int x2), (3, .int x3)] → f_X8_begin_14 n g a x1 x2 x3 = some res → W p l e ({ frames := 4, cells := 0, slots := 0, locals := 96 }) s m ([.ref (E.2.1 14), .int v1, .int v2] : List Value).toArray below meth c H locs 0 0 (MQ below ((xQv E (wX E res.1 res.2)) A) ([.ref (E.2.1 14), .int v1, .int v2] : List Value).toArray s 0 0 A) (F0 m 14 ls []) := by
    intro n
    induction n with
    | zero => intro g a x1 x2 x3 H locs ls hP hS hl hf; exact absurd (show (none : Option (xG × xA)) = some res from hf) (by intro h; cases h)
    | succ n ih =>
      intro g a x1 x2 x3 H locs ls hP hS hl hf
      replace hf := (e_X8_begin_14 n g a x1 x2 x3).symm.trans hf
      refine lv_iload_n hx hb dX8_begin_14 rfl (lv_at hl 3 rfl) ?_
      refine lv_aload_n hx hb dX8_begin_15 rfl (lv_at hl 0 rfl) ?_
      refine va_get (C := RX8) (T := TX8) (N := 8) hx hb hw bfX80 hown hK hP 14 (gx_14 E g a) rfl 3 (by decide) (hw _ bw248) (fun _ h9 => h9) rfl dX8_begin_16 ?_
      refine va_alen (v := 729) hx hb hK hP 15 0 (gx_15 E g a) rfl rfl dX8_begin_19 ?_
      refine lv_icmp_ge (tgt := 36) hx hb dX8_begin_20 (by decide) (fun c1 => ?_) (fun c1 => ?_)
      · replace hf := (if_pos c1).symm.trans hf
        refine lv_iconst (v := 0) hx hb dX8_begin_36 (by decide) ?_
        refine lv_istore_n (lv' := [(3, .int 0), (0, .ref (E.2.1 14)), (1, .int x1), (2, .int x2)]) hx hb dX8_begin_37 rfl hl (by decide) rfl (fun ls hl => ?_)
        exact B38 fu g a x1 x2 0 _ _ _ hP hS (lv_sub hl [1, 2, 3, 0] rfl) hf
      · replace hf := (if_neg c1).symm.trans hf
        refine lv_aload_n hx hb dX8_begin_23 rfl (lv_at hl 0 rfl) ?_
        refine va_get (C := RX8) (T := TX8) (N := 8) hx hb hw bfX80 hown hK hP 14 (gx_14 E g a) rfl 3 (by decide) (hw _ bw248) (fun _ h9 => h9) rfl dX8_begin_24 ?_
        refine lv_iload_n hx hb dX8_begin_27 rfl (lv_at hl 3 rfl) ?_
        refine lv_iconst (v := (-1)) hx hb dX8_begin_28 (by decide) ?_
        obtain ⟨k2, hf⟩ := ck_some hf
        refine va_iast hx hb hK hP (wX_D hD) hS 15 0 (gx_15 E g a) rfl (inB_in k2) dX8_begin_29 (fun H locs hP _ hS => ?_)
        have hP := xP_eq (sx_a15 E g a (upd (a 15) (x3 : Int32).toNatClampNeg (-1))) hP
        refine lv_iinc (v := (x3 + 1)) (lv' := [(3, .int (x3 + 1)), (0, .ref (E.2.1 14)), (1, .int x1), (2, .int x2)]) hx hb dX8_begin_30 hl (k := 3) rfl rfl (by decide) rfl (fun ls hl => ?_)
        refine lv_goto (tgt := 14) hx hb dX8_begin_33 (by decide) ?_
        exact ih g (upA a 15 (upd (a 15) (x3 : Int32).toNatClampNeg (-1))) x1 x2 (x3 + 1) _ _ _ hP hS (lv_sub hl [1, 2, 3, 0] rfl) hf
  refine lv_aload_n hx hb dX8_begin_0 rfl (lv_at hl 0 rfl) ?_
  refine lv_aload_n hx hb dX8_begin_1 rfl (lv_at hl 0 rfl) ?_
  refine va_get (C := RX8) (T := TX8) (N := 8) hx hb hw bfX80 hown hK hP 14 (gx_14 E g a) rfl 0 (by decide) (hw _ bw252) (fun _ h9 => h9) rfl dX8_begin_2 ?_
  refine lv_iload_n hx hb dX8_begin_5 rfl (lv_at hl 1 rfl) ?_
  refine xci (xRunV (rest := [.ref (E.2.1 14)]) (As := [.int v1]) (C := RX4) (k := 1) C0 (c_X4_power l E g a v1) bw55 bw334 bw22 bw58 bw59 hd_X4_power ⟨Nat.le_of_ble_eq_true rfl, Nat.le_of_ble_eq_true rfl⟩ hP (wX_D hD) hS (va_recv hK hP (ci := 4) rfl (gx_1 E g a)) rfl hl.1 rfl (Nat.le_of_ble_eq_true rfl) dX8_begin_6 ⟨Nat.zero_le _, Nat.zero_le _⟩) hS (fun H locs hP hS => ?_)
  refine va_put (v := .int (t_X4_power g a v1)) (ty := .int) (C := RX8) (T := TX8) (N := 8) hx hb hw bfX80 tyX8 tyX8_ok nmX8 hown hK hP (wX_D hD) hS 14 (gx_14 E g a) rfl 7 (by decide) (hw _ bw328) (fun _ h9 => h9) rfl (by decide +kernel) rfl rfl (Nat.le_of_ble_eq_true rfl) dX8_begin_9 (fun H locs hP _ hS => ?_)
  have hP := xP_eq (sx_g5 E g a (t_X4_power g a v1)) hP
  refine lv_iconst (v := 0) hx hb dX8_begin_12 (by decide) ?_
  refine lv_istore_n (lv' := [(3, .int 0), (0, .ref (E.2.1 14)), (1, .int v1), (2, .int v2)]) hx hb dX8_begin_13 rfl hl (by decide) rfl (fun ls hl => ?_)
  exact B14 fu (upd g 5 (t_X4_power g a v1)) a v1 v2 0 _ _ _ hP hS (lv_sub hl [1, 2, 3, 0] rfl) hf
def t_X8_allowOnly (g : xG) (a : xA) (v1 : Int32) (v2 : Int32) : xA := (upA a 16 (putF 27 (a 16) v1 ((atF 27 (a 16) v1) &&& ((1 : Int32) <<< (v2 &&& 31)))))
set_option maxRecDepth 100000 in
set_option maxHeartbeats 40000000 in
theorem c_X8_allowOnly (l : Launch) (E : xE) (g : xG) (a : xA) (v1 : Int32) (v2 : Int32) : xM l E yX8_allowOnly cX8_allowOnly 3 none 1 22 [.ref (E.2.1 14), .int v1, .int v2] (wX E g a) (xQv E (wX E g (t_X8_allowOnly g a v1 v2))) := by
  obtain ⟨res, hres⟩ : ∃ z, z = t_X8_allowOnly g a v1 v2 := ⟨_, rfl⟩
  rw [← hres]
  have hf : _ = res := hres.symm
  unfold t_X8_allowOnly at hf
  refine xM_of (by decide) (Nat.le_of_ble_eq_true rfl) ?_
  intro p e s m below meth c A hx hb hr hml hts hown hlocks hA hD hP hK hN hS ls hl
  have hw : ∀ w ∈ BW, w.before _ s = true := fun w h => hts w (List.mem_cons_of_mem _ h)
  have C0 : xCtx E p m c cX8_allowOnly 3 s _ RX8 A yX8_allowOnly cX8_allowOnly 3 none := ⟨hx, hb, hml, hown, hts, hA, hK, hN⟩
  have hl : lv_has ls 3 [(0, .ref (E.2.1 14)), (1, .int v1), (2, .int v2)] := hl
  refine lv_aload_n hx hb dX8_allowOnly_0 rfl (lv_at hl 0 rfl) ?_
  refine va_get (C := RX8) (T := TX8) (N := 8) hx hb hw bfX80 hown hK hP 14 (gx_14 E g a) rfl 4 (by decide) (hw _ bw249) (fun _ h9 => h9) rfl dX8_allowOnly_1 ?_
  refine lv_iload_n hx hb dX8_allowOnly_4 rfl (lv_at hl 1 rfl) ?_
  refine lv_aload_n hx hb dX8_allowOnly_5 rfl (lv_at hl 0 rfl) ?_
  refine va_get (C := RX8) (T := TX8) (N := 8) hx hb hw bfX80 hown hK hP 14 (gx_14 E g a) rfl 4 (by decide) (hw _ bw249) (fun _ h9 => h9) rfl dX8_allowOnly_6 ?_
  refine lv_iload_n hx hb dX8_allowOnly_9 rfl (lv_at hl 1 rfl) ?_
  refine xci (xRunN (rest := [.int v1, .ref (E.2.1 16)]) (As := [.ref (E.2.1 16), .int v1]) (k := 2) C0 (c_at l E (wX E g a) 16 v1 (gx_16 E g a) (Nat.le_of_ble_eq_true rfl)) bw9 nw21 bw13 bw12 hd_X11_at ⟨Nat.le_of_ble_eq_true rfl, Nat.le_of_ble_eq_true rfl⟩ hP (wX_D hD) hS rfl hl.1 rfl (Nat.le_of_ble_eq_true rfl) dX8_allowOnly_10 ⟨Nat.zero_le _, Nat.zero_le _⟩) hS (fun H locs hP hS => ?_)
  refine lv_iconst (v := 1) hx hb dX8_allowOnly_13 (by decide) ?_
  refine lv_iload_n hx hb dX8_allowOnly_14 rfl (lv_at hl 2 rfl) ?_
  refine lv_ishl hx hb dX8_allowOnly_15 ?_
  refine lv_iand hx hb dX8_allowOnly_16 ?_
  refine xcv (xRunN (rest := []) (As := [.ref (E.2.1 16), .int v1, .int ((atF 27 (a 16) v1) &&& ((1 : Int32) <<< (v2 &&& 31)))]) (k := 3) C0 (c_put l E (wX E g a) 16 v1 ((atF 27 (a 16) v1) &&& ((1 : Int32) <<< (v2 &&& 31))) (gx_16 E g a) (Nat.le_of_ble_eq_true rfl) (sx_a16 E g a (putF 27 (a 16) v1 ((atF 27 (a 16) v1) &&& ((1 : Int32) <<< (v2 &&& 31)))))) bw14 nw22 bw13 bw23 hd_X11_put ⟨Nat.le_of_ble_eq_true rfl, Nat.le_of_ble_eq_true rfl⟩ hP (wX_D hD) hS rfl hl.1 rfl (Nat.le_of_ble_eq_true rfl) dX8_allowOnly_17 ⟨Nat.zero_le _, Nat.zero_le _⟩) hS (fun H locs hP hS => ?_)
  exact xv_retS (fw := (fun r => wX E g r)) hx hb hr hlocks hf hP hS dX8_allowOnly_20
def t_J6_bitCount_0f7a4 (g : xG) (a : xA) (v0 : Int32) : Int32 := ((((((((v0 - (((v0.toUInt32 >>> ((1 : Int32).toUInt32 &&& Int32.toUInt32 31)).toInt32) &&& 1431655765)) &&& 858993459) + ((((v0 - (((v0.toUInt32 >>> ((1 : Int32).toUInt32 &&& Int32.toUInt32 31)).toInt32) &&& 1431655765)).toUInt32 >>> ((2 : Int32).toUInt32 &&& Int32.toUInt32 31)).toInt32) &&& 858993459)) + (((((v0 - (((v0.toUInt32 >>> ((1 : Int32).toUInt32 &&& Int32.toUInt32 31)).toInt32) &&& 1431655765)) &&& 858993459) + ((((v0 - (((v0.toUInt32 >>> ((1 : Int32).toUInt32 &&& Int32.toUInt32 31)).toInt32) &&& 1431655765)).toUInt32 >>> ((2 : Int32).toUInt32 &&& Int32.toUInt32 31)).toInt32) &&& 858993459)).toUInt32 >>> ((4 : Int32).toUInt32 &&& Int32.toUInt32 31)).toInt32)) &&& 252645135) + (((((((v0 - (((v0.toUInt32 >>> ((1 : Int32).toUInt32 &&& Int32.toUInt32 31)).toInt32) &&& 1431655765)) &&& 858993459) + ((((v0 - (((v0.toUInt32 >>> ((1 : Int32).toUInt32 &&& Int32.toUInt32 31)).toInt32) &&& 1431655765)).toUInt32 >>> ((2 : Int32).toUInt32 &&& Int32.toUInt32 31)).toInt32) &&& 858993459)) + (((((v0 - (((v0.toUInt32 >>> ((1 : Int32).toUInt32 &&& Int32.toUInt32 31)).toInt32) &&& 1431655765)) &&& 858993459) + ((((v0 - (((v0.toUInt32 >>> ((1 : Int32).toUInt32 &&& Int32.toUInt32 31)).toInt32) &&& 1431655765)).toUInt32 >>> ((2 : Int32).toUInt32 &&& Int32.toUInt32 31)).toInt32) &&& 858993459)).toUInt32 >>> ((4 : Int32).toUInt32 &&& Int32.toUInt32 31)).toInt32)) &&& 252645135).toUInt32 >>> ((8 : Int32).toUInt32 &&& Int32.toUInt32 31)).toInt32)) + ((((((((v0 - (((v0.toUInt32 >>> ((1 : Int32).toUInt32 &&& Int32.toUInt32 31)).toInt32) &&& 1431655765)) &&& 858993459) + ((((v0 - (((v0.toUInt32 >>> ((1 : Int32).toUInt32 &&& Int32.toUInt32 31)).toInt32) &&& 1431655765)).toUInt32 >>> ((2 : Int32).toUInt32 &&& Int32.toUInt32 31)).toInt32) &&& 858993459)) + (((((v0 - (((v0.toUInt32 >>> ((1 : Int32).toUInt32 &&& Int32.toUInt32 31)).toInt32) &&& 1431655765)) &&& 858993459) + ((((v0 - (((v0.toUInt32 >>> ((1 : Int32).toUInt32 &&& Int32.toUInt32 31)).toInt32) &&& 1431655765)).toUInt32 >>> ((2 : Int32).toUInt32 &&& Int32.toUInt32 31)).toInt32) &&& 858993459)).toUInt32 >>> ((4 : Int32).toUInt32 &&& Int32.toUInt32 31)).toInt32)) &&& 252645135) + (((((((v0 - (((v0.toUInt32 >>> ((1 : Int32).toUInt32 &&& Int32.toUInt32 31)).toInt32) &&& 1431655765)) &&& 858993459) + ((((v0 - (((v0.toUInt32 >>> ((1 : Int32).toUInt32 &&& Int32.toUInt32 31)).toInt32) &&& 1431655765)).toUInt32 >>> ((2 : Int32).toUInt32 &&& Int32.toUInt32 31)).toInt32) &&& 858993459)) + (((((v0 - (((v0.toUInt32 >>> ((1 : Int32).toUInt32 &&& Int32.toUInt32 31)).toInt32) &&& 1431655765)) &&& 858993459) + ((((v0 - (((v0.toUInt32 >>> ((1 : Int32).toUInt32 &&& Int32.toUInt32 31)).toInt32) &&& 1431655765)).toUInt32 >>> ((2 : Int32).toUInt32 &&& Int32.toUInt32 31)).toInt32) &&& 858993459)).toUInt32 >>> ((4 : Int32).toUInt32 &&& Int32.toUInt32 31)).toInt32)) &&& 252645135).toUInt32 >>> ((8 : Int32).toUInt32 &&& Int32.toUInt32 31)).toInt32)).toUInt32 >>> ((16 : Int32).toUInt32 &&& Int32.toUInt32 31)).toInt32)) &&& 63)
set_option maxRecDepth 100000 in
set_option maxHeartbeats 40000000 in
theorem c_J6_bitCount_0f7a4 (l : Launch) (E : xE) (g : xG) (a : xA) (v0 : Int32) : xM l E yJ6_bitCount_0f7a4 cJ6_bitCount_0f7a4 1 (some .int) 0 0 [.int v0] (wX E g a) (xQi E (t_J6_bitCount_0f7a4 g a v0) (wX E g a)) := by
  obtain ⟨res, hres⟩ : ∃ z, z = t_J6_bitCount_0f7a4 g a v0 := ⟨_, rfl⟩
  rw [← hres]
  have hf : _ = res := hres.symm
  unfold t_J6_bitCount_0f7a4 at hf
  refine xM_of (by decide) (Nat.le_of_ble_eq_true rfl) ?_
  intro p e s m below meth c A hx hb hr hml hts hown hlocks hA hD hP hK hN hS ls hl
  have hw : ∀ w ∈ BW, w.before _ s = true := fun w h => hts w (List.mem_cons_of_mem _ h)
  have C0 : xCtx E p m c cJ6_bitCount_0f7a4 1 s _ RJ6 A yJ6_bitCount_0f7a4 cJ6_bitCount_0f7a4 1 (some .int) := ⟨hx, hb, hml, hown, hts, hA, hK, hN⟩
  have hl : lv_has ls 1 [(0, .int v0)] := hl
  refine lv_iload_n hx hb dJ6_bitCount_0f7a4_0 rfl (lv_at hl 0 rfl) ?_
  refine lv_iload_n hx hb dJ6_bitCount_0f7a4_1 rfl (lv_at hl 0 rfl) ?_
  refine lv_iconst (v := 1) hx hb dJ6_bitCount_0f7a4_2 (by decide) ?_
  refine lv_iushr (v := ((v0.toUInt32 >>> ((1 : Int32).toUInt32 &&& Int32.toUInt32 31)).toInt32)) hx hb dJ6_bitCount_0f7a4_3 rfl ?_
  refine lv_ldcw hx hb hown (hw _ bw356) dJ6_bitCount_0f7a4_4 ?_
  refine lv_iand hx hb dJ6_bitCount_0f7a4_7 ?_
  refine lv_isub hx hb dJ6_bitCount_0f7a4_8 ?_
  refine lv_istore_n (lv' := [(0, .int (v0 - (((v0.toUInt32 >>> ((1 : Int32).toUInt32 &&& Int32.toUInt32 31)).toInt32) &&& 1431655765)))]) hx hb dJ6_bitCount_0f7a4_9 rfl hl (by decide) rfl (fun ls hl => ?_)
  refine lv_iload_n hx hb dJ6_bitCount_0f7a4_10 rfl (lv_at hl 0 rfl) ?_
  refine lv_ldcw hx hb hown (hw _ bw357) dJ6_bitCount_0f7a4_11 ?_
  refine lv_iand hx hb dJ6_bitCount_0f7a4_14 ?_
  refine lv_iload_n hx hb dJ6_bitCount_0f7a4_15 rfl (lv_at hl 0 rfl) ?_
  refine lv_iconst (v := 2) hx hb dJ6_bitCount_0f7a4_16 (by decide) ?_
  refine lv_iushr (v := (((v0 - (((v0.toUInt32 >>> ((1 : Int32).toUInt32 &&& Int32.toUInt32 31)).toInt32) &&& 1431655765)).toUInt32 >>> ((2 : Int32).toUInt32 &&& Int32.toUInt32 31)).toInt32)) hx hb dJ6_bitCount_0f7a4_17 rfl ?_
  refine lv_ldcw hx hb hown (hw _ bw357) dJ6_bitCount_0f7a4_18 ?_
  refine lv_iand hx hb dJ6_bitCount_0f7a4_21 ?_
  refine lv_iadd hx hb dJ6_bitCount_0f7a4_22 ?_
  refine lv_istore_n (lv' := [(0, .int (((v0 - (((v0.toUInt32 >>> ((1 : Int32).toUInt32 &&& Int32.toUInt32 31)).toInt32) &&& 1431655765)) &&& 858993459) + ((((v0 - (((v0.toUInt32 >>> ((1 : Int32).toUInt32 &&& Int32.toUInt32 31)).toInt32) &&& 1431655765)).toUInt32 >>> ((2 : Int32).toUInt32 &&& Int32.toUInt32 31)).toInt32) &&& 858993459)))]) hx hb dJ6_bitCount_0f7a4_23 rfl hl (by decide) rfl (fun ls hl => ?_)
  refine lv_iload_n hx hb dJ6_bitCount_0f7a4_24 rfl (lv_at hl 0 rfl) ?_
  refine lv_iload_n hx hb dJ6_bitCount_0f7a4_25 rfl (lv_at hl 0 rfl) ?_
  refine lv_iconst (v := 4) hx hb dJ6_bitCount_0f7a4_26 (by decide) ?_
  refine lv_iushr (v := (((((v0 - (((v0.toUInt32 >>> ((1 : Int32).toUInt32 &&& Int32.toUInt32 31)).toInt32) &&& 1431655765)) &&& 858993459) + ((((v0 - (((v0.toUInt32 >>> ((1 : Int32).toUInt32 &&& Int32.toUInt32 31)).toInt32) &&& 1431655765)).toUInt32 >>> ((2 : Int32).toUInt32 &&& Int32.toUInt32 31)).toInt32) &&& 858993459)).toUInt32 >>> ((4 : Int32).toUInt32 &&& Int32.toUInt32 31)).toInt32)) hx hb dJ6_bitCount_0f7a4_27 rfl ?_
  refine lv_iadd hx hb dJ6_bitCount_0f7a4_28 ?_
  refine lv_ldcw hx hb hown (hw _ bw358) dJ6_bitCount_0f7a4_29 ?_
  refine lv_iand hx hb dJ6_bitCount_0f7a4_32 ?_
  refine lv_istore_n (lv' := [(0, .int (((((v0 - (((v0.toUInt32 >>> ((1 : Int32).toUInt32 &&& Int32.toUInt32 31)).toInt32) &&& 1431655765)) &&& 858993459) + ((((v0 - (((v0.toUInt32 >>> ((1 : Int32).toUInt32 &&& Int32.toUInt32 31)).toInt32) &&& 1431655765)).toUInt32 >>> ((2 : Int32).toUInt32 &&& Int32.toUInt32 31)).toInt32) &&& 858993459)) + (((((v0 - (((v0.toUInt32 >>> ((1 : Int32).toUInt32 &&& Int32.toUInt32 31)).toInt32) &&& 1431655765)) &&& 858993459) + ((((v0 - (((v0.toUInt32 >>> ((1 : Int32).toUInt32 &&& Int32.toUInt32 31)).toInt32) &&& 1431655765)).toUInt32 >>> ((2 : Int32).toUInt32 &&& Int32.toUInt32 31)).toInt32) &&& 858993459)).toUInt32 >>> ((4 : Int32).toUInt32 &&& Int32.toUInt32 31)).toInt32)) &&& 252645135))]) hx hb dJ6_bitCount_0f7a4_33 rfl hl (by decide) rfl (fun ls hl => ?_)
  refine lv_iload_n hx hb dJ6_bitCount_0f7a4_34 rfl (lv_at hl 0 rfl) ?_
  refine lv_iload_n hx hb dJ6_bitCount_0f7a4_35 rfl (lv_at hl 0 rfl) ?_
  refine lv_bipush (v := 8) hx hb dJ6_bitCount_0f7a4_36 (by decide) ?_
  refine lv_iushr (v := (((((((v0 - (((v0.toUInt32 >>> ((1 : Int32).toUInt32 &&& Int32.toUInt32 31)).toInt32) &&& 1431655765)) &&& 858993459) + ((((v0 - (((v0.toUInt32 >>> ((1 : Int32).toUInt32 &&& Int32.toUInt32 31)).toInt32) &&& 1431655765)).toUInt32 >>> ((2 : Int32).toUInt32 &&& Int32.toUInt32 31)).toInt32) &&& 858993459)) + (((((v0 - (((v0.toUInt32 >>> ((1 : Int32).toUInt32 &&& Int32.toUInt32 31)).toInt32) &&& 1431655765)) &&& 858993459) + ((((v0 - (((v0.toUInt32 >>> ((1 : Int32).toUInt32 &&& Int32.toUInt32 31)).toInt32) &&& 1431655765)).toUInt32 >>> ((2 : Int32).toUInt32 &&& Int32.toUInt32 31)).toInt32) &&& 858993459)).toUInt32 >>> ((4 : Int32).toUInt32 &&& Int32.toUInt32 31)).toInt32)) &&& 252645135).toUInt32 >>> ((8 : Int32).toUInt32 &&& Int32.toUInt32 31)).toInt32)) hx hb dJ6_bitCount_0f7a4_38 rfl ?_
  refine lv_iadd hx hb dJ6_bitCount_0f7a4_39 ?_
  refine lv_istore_n (lv' := [(0, .int ((((((v0 - (((v0.toUInt32 >>> ((1 : Int32).toUInt32 &&& Int32.toUInt32 31)).toInt32) &&& 1431655765)) &&& 858993459) + ((((v0 - (((v0.toUInt32 >>> ((1 : Int32).toUInt32 &&& Int32.toUInt32 31)).toInt32) &&& 1431655765)).toUInt32 >>> ((2 : Int32).toUInt32 &&& Int32.toUInt32 31)).toInt32) &&& 858993459)) + (((((v0 - (((v0.toUInt32 >>> ((1 : Int32).toUInt32 &&& Int32.toUInt32 31)).toInt32) &&& 1431655765)) &&& 858993459) + ((((v0 - (((v0.toUInt32 >>> ((1 : Int32).toUInt32 &&& Int32.toUInt32 31)).toInt32) &&& 1431655765)).toUInt32 >>> ((2 : Int32).toUInt32 &&& Int32.toUInt32 31)).toInt32) &&& 858993459)).toUInt32 >>> ((4 : Int32).toUInt32 &&& Int32.toUInt32 31)).toInt32)) &&& 252645135) + (((((((v0 - (((v0.toUInt32 >>> ((1 : Int32).toUInt32 &&& Int32.toUInt32 31)).toInt32) &&& 1431655765)) &&& 858993459) + ((((v0 - (((v0.toUInt32 >>> ((1 : Int32).toUInt32 &&& Int32.toUInt32 31)).toInt32) &&& 1431655765)).toUInt32 >>> ((2 : Int32).toUInt32 &&& Int32.toUInt32 31)).toInt32) &&& 858993459)) + (((((v0 - (((v0.toUInt32 >>> ((1 : Int32).toUInt32 &&& Int32.toUInt32 31)).toInt32) &&& 1431655765)) &&& 858993459) + ((((v0 - (((v0.toUInt32 >>> ((1 : Int32).toUInt32 &&& Int32.toUInt32 31)).toInt32) &&& 1431655765)).toUInt32 >>> ((2 : Int32).toUInt32 &&& Int32.toUInt32 31)).toInt32) &&& 858993459)).toUInt32 >>> ((4 : Int32).toUInt32 &&& Int32.toUInt32 31)).toInt32)) &&& 252645135).toUInt32 >>> ((8 : Int32).toUInt32 &&& Int32.toUInt32 31)).toInt32)))]) hx hb dJ6_bitCount_0f7a4_40 rfl hl (by decide) rfl (fun ls hl => ?_)
  refine lv_iload_n hx hb dJ6_bitCount_0f7a4_41 rfl (lv_at hl 0 rfl) ?_
  refine lv_iload_n hx hb dJ6_bitCount_0f7a4_42 rfl (lv_at hl 0 rfl) ?_
  refine lv_bipush (v := 16) hx hb dJ6_bitCount_0f7a4_43 (by decide) ?_
  refine lv_iushr (v := ((((((((v0 - (((v0.toUInt32 >>> ((1 : Int32).toUInt32 &&& Int32.toUInt32 31)).toInt32) &&& 1431655765)) &&& 858993459) + ((((v0 - (((v0.toUInt32 >>> ((1 : Int32).toUInt32 &&& Int32.toUInt32 31)).toInt32) &&& 1431655765)).toUInt32 >>> ((2 : Int32).toUInt32 &&& Int32.toUInt32 31)).toInt32) &&& 858993459)) + (((((v0 - (((v0.toUInt32 >>> ((1 : Int32).toUInt32 &&& Int32.toUInt32 31)).toInt32) &&& 1431655765)) &&& 858993459) + ((((v0 - (((v0.toUInt32 >>> ((1 : Int32).toUInt32 &&& Int32.toUInt32 31)).toInt32) &&& 1431655765)).toUInt32 >>> ((2 : Int32).toUInt32 &&& Int32.toUInt32 31)).toInt32) &&& 858993459)).toUInt32 >>> ((4 : Int32).toUInt32 &&& Int32.toUInt32 31)).toInt32)) &&& 252645135) + (((((((v0 - (((v0.toUInt32 >>> ((1 : Int32).toUInt32 &&& Int32.toUInt32 31)).toInt32) &&& 1431655765)) &&& 858993459) + ((((v0 - (((v0.toUInt32 >>> ((1 : Int32).toUInt32 &&& Int32.toUInt32 31)).toInt32) &&& 1431655765)).toUInt32 >>> ((2 : Int32).toUInt32 &&& Int32.toUInt32 31)).toInt32) &&& 858993459)) + (((((v0 - (((v0.toUInt32 >>> ((1 : Int32).toUInt32 &&& Int32.toUInt32 31)).toInt32) &&& 1431655765)) &&& 858993459) + ((((v0 - (((v0.toUInt32 >>> ((1 : Int32).toUInt32 &&& Int32.toUInt32 31)).toInt32) &&& 1431655765)).toUInt32 >>> ((2 : Int32).toUInt32 &&& Int32.toUInt32 31)).toInt32) &&& 858993459)).toUInt32 >>> ((4 : Int32).toUInt32 &&& Int32.toUInt32 31)).toInt32)) &&& 252645135).toUInt32 >>> ((8 : Int32).toUInt32 &&& Int32.toUInt32 31)).toInt32)).toUInt32 >>> ((16 : Int32).toUInt32 &&& Int32.toUInt32 31)).toInt32)) hx hb dJ6_bitCount_0f7a4_45 rfl ?_
  refine lv_iadd hx hb dJ6_bitCount_0f7a4_46 ?_
  refine lv_istore_n (lv' := [(0, .int (((((((v0 - (((v0.toUInt32 >>> ((1 : Int32).toUInt32 &&& Int32.toUInt32 31)).toInt32) &&& 1431655765)) &&& 858993459) + ((((v0 - (((v0.toUInt32 >>> ((1 : Int32).toUInt32 &&& Int32.toUInt32 31)).toInt32) &&& 1431655765)).toUInt32 >>> ((2 : Int32).toUInt32 &&& Int32.toUInt32 31)).toInt32) &&& 858993459)) + (((((v0 - (((v0.toUInt32 >>> ((1 : Int32).toUInt32 &&& Int32.toUInt32 31)).toInt32) &&& 1431655765)) &&& 858993459) + ((((v0 - (((v0.toUInt32 >>> ((1 : Int32).toUInt32 &&& Int32.toUInt32 31)).toInt32) &&& 1431655765)).toUInt32 >>> ((2 : Int32).toUInt32 &&& Int32.toUInt32 31)).toInt32) &&& 858993459)).toUInt32 >>> ((4 : Int32).toUInt32 &&& Int32.toUInt32 31)).toInt32)) &&& 252645135) + (((((((v0 - (((v0.toUInt32 >>> ((1 : Int32).toUInt32 &&& Int32.toUInt32 31)).toInt32) &&& 1431655765)) &&& 858993459) + ((((v0 - (((v0.toUInt32 >>> ((1 : Int32).toUInt32 &&& Int32.toUInt32 31)).toInt32) &&& 1431655765)).toUInt32 >>> ((2 : Int32).toUInt32 &&& Int32.toUInt32 31)).toInt32) &&& 858993459)) + (((((v0 - (((v0.toUInt32 >>> ((1 : Int32).toUInt32 &&& Int32.toUInt32 31)).toInt32) &&& 1431655765)) &&& 858993459) + ((((v0 - (((v0.toUInt32 >>> ((1 : Int32).toUInt32 &&& Int32.toUInt32 31)).toInt32) &&& 1431655765)).toUInt32 >>> ((2 : Int32).toUInt32 &&& Int32.toUInt32 31)).toInt32) &&& 858993459)).toUInt32 >>> ((4 : Int32).toUInt32 &&& Int32.toUInt32 31)).toInt32)) &&& 252645135).toUInt32 >>> ((8 : Int32).toUInt32 &&& Int32.toUInt32 31)).toInt32)) + ((((((((v0 - (((v0.toUInt32 >>> ((1 : Int32).toUInt32 &&& Int32.toUInt32 31)).toInt32) &&& 1431655765)) &&& 858993459) + ((((v0 - (((v0.toUInt32 >>> ((1 : Int32).toUInt32 &&& Int32.toUInt32 31)).toInt32) &&& 1431655765)).toUInt32 >>> ((2 : Int32).toUInt32 &&& Int32.toUInt32 31)).toInt32) &&& 858993459)) + (((((v0 - (((v0.toUInt32 >>> ((1 : Int32).toUInt32 &&& Int32.toUInt32 31)).toInt32) &&& 1431655765)) &&& 858993459) + ((((v0 - (((v0.toUInt32 >>> ((1 : Int32).toUInt32 &&& Int32.toUInt32 31)).toInt32) &&& 1431655765)).toUInt32 >>> ((2 : Int32).toUInt32 &&& Int32.toUInt32 31)).toInt32) &&& 858993459)).toUInt32 >>> ((4 : Int32).toUInt32 &&& Int32.toUInt32 31)).toInt32)) &&& 252645135) + (((((((v0 - (((v0.toUInt32 >>> ((1 : Int32).toUInt32 &&& Int32.toUInt32 31)).toInt32) &&& 1431655765)) &&& 858993459) + ((((v0 - (((v0.toUInt32 >>> ((1 : Int32).toUInt32 &&& Int32.toUInt32 31)).toInt32) &&& 1431655765)).toUInt32 >>> ((2 : Int32).toUInt32 &&& Int32.toUInt32 31)).toInt32) &&& 858993459)) + (((((v0 - (((v0.toUInt32 >>> ((1 : Int32).toUInt32 &&& Int32.toUInt32 31)).toInt32) &&& 1431655765)) &&& 858993459) + ((((v0 - (((v0.toUInt32 >>> ((1 : Int32).toUInt32 &&& Int32.toUInt32 31)).toInt32) &&& 1431655765)).toUInt32 >>> ((2 : Int32).toUInt32 &&& Int32.toUInt32 31)).toInt32) &&& 858993459)).toUInt32 >>> ((4 : Int32).toUInt32 &&& Int32.toUInt32 31)).toInt32)) &&& 252645135).toUInt32 >>> ((8 : Int32).toUInt32 &&& Int32.toUInt32 31)).toInt32)).toUInt32 >>> ((16 : Int32).toUInt32 &&& Int32.toUInt32 31)).toInt32)))]) hx hb dJ6_bitCount_0f7a4_47 rfl hl (by decide) rfl (fun ls hl => ?_)
  refine lv_iload_n hx hb dJ6_bitCount_0f7a4_48 rfl (lv_at hl 0 rfl) ?_
  refine lv_bipush (v := 63) hx hb dJ6_bitCount_0f7a4_49 (by decide) ?_
  refine lv_iand hx hb dJ6_bitCount_0f7a4_51 ?_
  exact xi_retS (fr := (fun r => r)) (fw := (fun r => wX E g a)) hx hb hr hlocks hf hP hS dJ6_bitCount_0f7a4_52
def f_X8_orderPoints_36 (g : xG) (K10 : xA → Int32 → Int32 → Int32 → Option (Int32 × xA)) (a : xA) (x2 : Int32) (x3 : Int32) (x4 : Int32) (s0 : Int32) : Option (Int32 × xA) := (if s0 = x2 then K10 (upA a 17 (putF 27 (a 17) x3 x4)) x2 (x3 + 1) (x4 + (-1)) else K10 a x2 x3 (x4 + (-1)))
def f_X8_orderPoints_10 (g : xG) : Nat → xA → Int32 → Int32 → Int32 → Option (Int32 × xA)
  | 0, _, _, _, _ => none
  | n + 1, a, x2, x3, x4 => (if x4 < 0 then some (x3, a) else (if 1 < (t_J6_bitCount_0f7a4 g a (atF 27 (a 16) x4)) then f_X8_orderPoints_36 g (f_X8_orderPoints_10 g n) a x2 x3 x4 0 else f_X8_orderPoints_36 g (f_X8_orderPoints_10 g n) a x2 x3 x4 1))
theorem e_X8_orderPoints_10 (g : xG) (n : Nat) (a : xA) (x2 : Int32) (x3 : Int32) (x4 : Int32) : f_X8_orderPoints_10 g (n + 1) a x2 x3 x4 = (if x4 < 0 then some (x3, a) else (if 1 < (t_J6_bitCount_0f7a4 g a (atF 27 (a 16) x4)) then f_X8_orderPoints_36 g (f_X8_orderPoints_10 g n) a x2 x3 x4 0 else f_X8_orderPoints_36 g (f_X8_orderPoints_10 g n) a x2 x3 x4 1)) := rfl
def f_X8_orderPoints (g : xG) (a : xA) (v1 : Int32) (v2 : Int32) : Option (Int32 × xA) := f_X8_orderPoints_10 g fu a v2 v1 ((g 5) - 1)
set_option maxRecDepth 100000 in
set_option maxHeartbeats 40000000 in
theorem c_X8_orderPoints (l : Launch) (E : xE) (g : xG) (a : xA) (v1 : Int32) (v2 : Int32) {res : Int32 × xA} (hf : f_X8_orderPoints g a v1 v2 = some res) : xM l E yX8_orderPoints cX8_orderPoints 6 (some .int) 1 22 [.ref (E.2.1 14), .int v1, .int v2] (wX E g a) (xQi E res.1 (wX E g res.2)) := by
  unfold f_X8_orderPoints at hf
  refine xM_of (by decide) (Nat.le_of_ble_eq_true rfl) ?_
  intro p e s m below meth c A hx hb hr hml hts hown hlocks hA hD hP hK hN hS ls hl
  have hw : ∀ w ∈ BW, w.before _ s = true := fun w h => hts w (List.mem_cons_of_mem _ h)
  have C0 : xCtx E p m c cX8_orderPoints 6 s _ RX8 A yX8_orderPoints cX8_orderPoints 6 (some .int) := ⟨hx, hb, hml, hown, hts, hA, hK, hN⟩
  have hl : lv_has ls 6 [(0, .ref (E.2.1 14)), (1, .int v1), (2, .int v2)] := hl
  have B36 : ∀ (K10 : xA → Int32 → Int32 → Int32 → Option (Int32 × xA)) (hK10 : ∀ (a : xA) (x2 : Int32) (x3 : Int32) (x4 : Int32) (H : Heap) (locs : List Loc) (ls : Array Slot), va_P E.1 vwCl (wX E g a) H → va_S A s.heap H locs → lv_has ls 6 [(0, .ref (E.2.1 14)), (2, .int x2), (3, .int x3), (4, .int x4)] → K10 a x2 x3 x4 = some res → W p l e ({ frames := 1, cells := 0, slots := 0, locals := 22 }) s m ([.ref (E.2.1 14), .int v1, .int v2] : List Value).toArray below meth c H locs 0 0 (MQ below ((xQi E res.1 (wX E g res.2)) A) ([.ref (E.2.1 14), .int v1, .int v2] : List Value).toArray s 0 0 A) (F0 m 10 ls [])) (a : xA) (x2 : Int32) (x3 : Int32) (x4 : Int32) (s0 : Int32) (H : Heap) (locs : List Loc) (ls : Array Slot), va_P E.1 vwCl (wX E g a) H → va_S A s.heap H locs → lv_has ls 6 [(0, .ref (E.2.1 14)), (2, .int x2), (3, .int x3), (4, .int x4)] → f_X8_orderPoints_36 g K10 a x2 x3 x4 s0 = some res → W p l e ({ frames := 1, cells := 0, slots := 0, locals := 22 }) s m ([.ref (E.2.1 14), .int v1, .int v2] : List Value).toArray below meth c H locs 0 0 (MQ below ((xQi E res.1 (wX E g res.2)) A) ([.ref (E.2.1 14), .int v1, .int v2] : List Value).toArray s 0 0 A) (F0 m 36 ls [.int s0]) := by
    intro K10 hK10 a x2 x3 x4 s0 H locs ls hP hS hl hf
    unfold f_X8_orderPoints_36 at hf
    refine lv_istore (lv' := [(5, .int s0), (0, .ref (E.2.1 14)), (2, .int x2), (3, .int x3), (4, .int x4)]) hx hb dX8_orderPoints_36 hl (by decide) rfl (fun ls hl => ?_)
    refine lv_iload hx hb dX8_orderPoints_38 (lv_at hl 0 rfl) ?_
    refine lv_iload_n hx hb dX8_orderPoints_40 rfl (lv_at hl 2 rfl) ?_
    refine lv_icmp_ne (tgt := 57) hx hb dX8_orderPoints_41 (by decide) (fun c3 => ?_) (fun c3 => ?_)
    · replace hf := (if_neg c3).symm.trans hf
      refine lv_iinc (v := (x4 + (-1))) (lv' := [(4, .int (x4 + (-1))), (5, .int s0), (0, .ref (E.2.1 14)), (2, .int x2), (3, .int x3)]) hx hb dX8_orderPoints_57 hl (k := 4) rfl rfl (by decide) rfl (fun ls hl => ?_)
      refine lv_goto (tgt := 10) hx hb dX8_orderPoints_60 (by decide) ?_
      exact hK10 a x2 x3 (x4 + (-1)) _ _ _ hP hS (lv_sub hl [2, 3, 4, 0] rfl) hf
    · replace hf := (if_pos c3).symm.trans hf
      refine lv_aload_n hx hb dX8_orderPoints_44 rfl (lv_at hl 1 rfl) ?_
      refine va_get (C := RX8) (T := TX8) (N := 8) hx hb hw bfX80 hown hK hP 14 (gx_14 E g a) rfl 5 (by decide) (hw _ bw250) (fun _ h9 => h9) rfl dX8_orderPoints_45 ?_
      refine lv_iload_n hx hb dX8_orderPoints_48 rfl (lv_at hl 3 rfl) ?_
      refine lv_iload hx hb dX8_orderPoints_49 (lv_at hl 4 rfl) ?_
      refine xcv (xRunN (rest := []) (As := [.ref (E.2.1 17), .int x3, .int x4]) (k := 3) C0 (c_put l E (wX E g a) 17 x3 x4 (gx_17 E g a) (Nat.le_of_ble_eq_true rfl) (sx_a17 E g a (putF 27 (a 17) x3 x4))) bw14 nw22 bw13 bw23 hd_X11_put ⟨Nat.le_of_ble_eq_true rfl, Nat.le_of_ble_eq_true rfl⟩ hP (wX_D hD) hS rfl hl.1 rfl (Nat.le_of_ble_eq_true rfl) dX8_orderPoints_51 ⟨Nat.zero_le _, Nat.zero_le _⟩) hS (fun H locs hP hS => ?_)
      refine lv_iinc (v := (x3 + 1)) (lv' := [(3, .int (x3 + 1)), (5, .int s0), (0, .ref (E.2.1 14)), (2, .int x2), (4, .int x4)]) hx hb dX8_orderPoints_54 hl (k := 3) rfl rfl (by decide) rfl (fun ls hl => ?_)
      refine lv_iinc (v := (x4 + (-1))) (lv' := [(4, .int (x4 + (-1))), (3, .int (x3 + 1)), (5, .int s0), (0, .ref (E.2.1 14)), (2, .int x2)]) hx hb dX8_orderPoints_57 hl (k := 4) rfl rfl (by decide) rfl (fun ls hl => ?_)
      refine lv_goto (tgt := 10) hx hb dX8_orderPoints_60 (by decide) ?_
      exact hK10 (upA a 17 (putF 27 (a 17) x3 x4)) x2 (x3 + 1) (x4 + (-1)) _ _ _ hP hS (lv_sub hl [3, 4, 1, 0] rfl) hf
  have B10 : ∀ (n : Nat) (a : xA) (x2 : Int32) (x3 : Int32) (x4 : Int32) (H : Heap) (locs : List Loc) (ls : Array Slot), va_P E.1 vwCl (wX E g a) H → va_S A s.heap H locs → lv_has ls 6 [(0, .ref (E.2.1 14)), (2, .int x2), (3, .int x3), (4, .int x4)] → f_X8_orderPoints_10 g n a x2 x3 x4 = some res → W p l e ({ frames := 1, cells := 0, slots := 0, locals := 22 }) s m ([.ref (E.2.1 14), .int v1, .int v2] : List Value).toArray below meth c H locs 0 0 (MQ below ((xQi E res.1 (wX E g res.2)) A) ([.ref (E.2.1 14), .int v1, .int v2] : List Value).toArray s 0 0 A) (F0 m 10 ls []) := by
    intro n
    induction n with
    | zero => intro a x2 x3 x4 H locs ls hP hS hl hf; exact absurd (show (none : Option (Int32 × xA)) = some res from hf) (by intro h; cases h)
    | succ n ih =>
      intro a x2 x3 x4 H locs ls hP hS hl hf
      replace hf := (e_X8_orderPoints_10 g n a x2 x3 x4).symm.trans hf
      refine lv_iload hx hb dX8_orderPoints_10 (lv_at hl 3 rfl) ?_
      refine lv_if_lt (tgt := 63) hx hb dX8_orderPoints_12 (by decide) (fun c1 => ?_) (fun c1 => ?_)
      · replace hf := (if_pos c1).symm.trans hf
        refine lv_iload_n hx hb dX8_orderPoints_63 rfl (lv_at hl 2 rfl) ?_
        exact xi_retS (fr := (fun r => r.1)) (fw := (fun r => wX E g r.2)) hx hb hr hlocks (Option.some.inj hf) hP hS dX8_orderPoints_64
      · replace hf := (if_neg c1).symm.trans hf
        refine lv_aload_n hx hb dX8_orderPoints_15 rfl (lv_at hl 0 rfl) ?_
        refine va_get (C := RX8) (T := TX8) (N := 8) hx hb hw bfX80 hown hK hP 14 (gx_14 E g a) rfl 4 (by decide) (hw _ bw249) (fun _ h9 => h9) rfl dX8_orderPoints_16 ?_
        refine lv_iload hx hb dX8_orderPoints_19 (lv_at hl 3 rfl) ?_
        refine xci (xRunN (rest := []) (As := [.ref (E.2.1 16), .int x4]) (k := 2) C0 (c_at l E (wX E g a) 16 x4 (gx_16 E g a) (Nat.le_of_ble_eq_true rfl)) bw9 nw21 bw13 bw12 hd_X11_at ⟨Nat.le_of_ble_eq_true rfl, Nat.le_of_ble_eq_true rfl⟩ hP (wX_D hD) hS rfl hl.1 rfl (Nat.le_of_ble_eq_true rfl) dX8_orderPoints_21 ⟨Nat.zero_le _, Nat.zero_le _⟩) hS (fun H locs hP hS => ?_)
        refine xci (xRunS (rest := []) (As := [.int (atF 27 (a 16) x4)]) (k := 1) C0 (c_J6_bitCount_0f7a4 l E g a (atF 27 (a 16) x4)) bw355 bw360 bw362 bw361 hd_J6_bitCount_0f7a4 ⟨Nat.le_of_ble_eq_true rfl, Nat.le_of_ble_eq_true rfl⟩ hP (wX_D hD) hS rfl hl.1 rfl (Nat.le_of_ble_eq_true rfl) dX8_orderPoints_24 ⟨Nat.zero_le _, Nat.zero_le _⟩) hS (fun H locs hP hS => ?_)
        refine lv_iconst (v := 1) hx hb dX8_orderPoints_27 (by decide) ?_
        refine lv_icmp_gt (tgt := 35) hx hb dX8_orderPoints_28 (by decide) (fun c2 => ?_) (fun c2 => ?_)
        · replace hf := (if_pos c2).symm.trans hf
          refine lv_iconst (v := 0) hx hb dX8_orderPoints_35 (by decide) ?_
          exact B36 (f_X8_orderPoints_10 g n) ih a x2 x3 x4 0 _ _ _ hP hS (lv_sub hl [0, 1, 2, 3] rfl) hf
        · replace hf := (if_neg c2).symm.trans hf
          refine lv_iconst (v := 1) hx hb dX8_orderPoints_31 (by decide) ?_
          refine lv_goto (tgt := 36) hx hb dX8_orderPoints_32 (by decide) ?_
          exact B36 (f_X8_orderPoints_10 g n) ih a x2 x3 x4 1 _ _ _ hP hS (lv_sub hl [0, 1, 2, 3] rfl) hf
  refine lv_iload_n hx hb dX8_orderPoints_0 rfl (lv_at hl 1 rfl) ?_
  refine lv_istore_n (lv' := [(3, .int v1), (0, .ref (E.2.1 14)), (1, .int v1), (2, .int v2)]) hx hb dX8_orderPoints_1 rfl hl (by decide) rfl (fun ls hl => ?_)
  refine lv_aload_n hx hb dX8_orderPoints_2 rfl (lv_at hl 1 rfl) ?_
  refine va_get (C := RX8) (T := TX8) (N := 8) hx hb hw bfX80 hown hK hP 14 (gx_14 E g a) rfl 7 (by decide) (hw _ bw328) (fun _ h9 => h9) rfl dX8_orderPoints_3 ?_
  refine lv_iconst (v := 1) hx hb dX8_orderPoints_6 (by decide) ?_
  refine lv_isub hx hb dX8_orderPoints_7 ?_
  refine lv_istore (lv' := [(4, .int ((g 5) - 1)), (3, .int v1), (0, .ref (E.2.1 14)), (1, .int v1), (2, .int v2)]) hx hb dX8_orderPoints_8 hl (by decide) rfl (fun ls hl => ?_)
  exact B10 fu a v2 v1 ((g 5) - 1) _ _ _ hP hS (lv_sub hl [2, 4, 1, 0] rfl) hf
def f_X8_isAllowed_61 (g : xG) (a : xA) (x1 : Int32) (x2 : Int32) (x3 : Int32) (x4 : Int32) : Option (Int32) := ck (boB (isInF x4 (atF 729 (a 15) (t_X8_keyOf g a x1 x2 x3)))) (some (isInF x4 (atF 729 (a 15) (t_X8_keyOf g a x1 x2 x3))))
def f_X8_isAllowed (g : xG) (a : xA) (v1 : Int32) (v2 : Int32) (v3 : Int32) : Option (Int32) := (if (t_X4_widest g a) ≤ 2 then f_X8_isAllowed_61 g a v1 v2 v3 ((atF 27 (a 18) v1) + ((t_X4_power g a 1) * (atF 27 (a 18) v2))) else f_X8_isAllowed_61 g a v1 v2 v3 (((atF 27 (a 18) v1) + ((t_X4_power g a 1) * (atF 27 (a 18) v2))) + ((t_X4_power g a 2) * (atF 27 (a 18) v3))))
set_option maxRecDepth 100000 in
set_option maxHeartbeats 40000000 in
theorem c_X8_isAllowed (l : Launch) (E : xE) (g : xG) (a : xA) (v1 : Int32) (v2 : Int32) (v3 : Int32) {res : Int32} (hf : f_X8_isAllowed g a v1 v2 v3 = some res) : xM l E yX8_isAllowed cX8_isAllowed 5 (some .boolean) 2 43 [.ref (E.2.1 14), .int v1, .int v2, .int v3] (wX E g a) (xQi E res (wX E g a)) := by
  unfold f_X8_isAllowed at hf
  refine xM_of (by decide) (Nat.le_of_ble_eq_true rfl) ?_
  intro p e s m below meth c A hx hb hr hml hts hown hlocks hA hD hP hK hN hS ls hl
  have hw : ∀ w ∈ BW, w.before _ s = true := fun w h => hts w (List.mem_cons_of_mem _ h)
  have C0 : xCtx E p m c cX8_isAllowed 5 s _ RX8 A yX8_isAllowed cX8_isAllowed 5 (some .boolean) := ⟨hx, hb, hml, hown, hts, hA, hK, hN⟩
  have hl : lv_has ls 5 [(0, .ref (E.2.1 14)), (1, .int v1), (2, .int v2), (3, .int v3)] := hl
  have B61 : ∀ (x1 : Int32) (x2 : Int32) (x3 : Int32) (x4 : Int32) (H : Heap) (locs : List Loc) (ls : Array Slot), va_P E.1 vwCl (wX E g a) H → va_S A s.heap H locs → lv_has ls 5 [(0, .ref (E.2.1 14)), (1, .int x1), (2, .int x2), (3, .int x3), (4, .int x4)] → f_X8_isAllowed_61 g a x1 x2 x3 x4 = some res → W p l e ({ frames := 2, cells := 0, slots := 0, locals := 43 }) s m ([.ref (E.2.1 14), .int v1, .int v2, .int v3] : List Value).toArray below meth c H locs 0 0 (MQ below ((xQi E res (wX E g a)) A) ([.ref (E.2.1 14), .int v1, .int v2, .int v3] : List Value).toArray s 0 0 A) (F0 m 61 ls []) := by
    intro x1 x2 x3 x4 H locs ls hP hS hl hf
    unfold f_X8_isAllowed_61 at hf
    refine lv_iload hx hb dX8_isAllowed_61 (lv_at hl 4 rfl) ?_
    refine lv_aload_n hx hb dX8_isAllowed_63 rfl (lv_at hl 0 rfl) ?_
    refine va_get (C := RX8) (T := TX8) (N := 8) hx hb hw bfX80 hown hK hP 14 (gx_14 E g a) rfl 3 (by decide) (hw _ bw248) (fun _ h9 => h9) rfl dX8_isAllowed_64 ?_
    refine lv_aload_n hx hb dX8_isAllowed_67 rfl (lv_at hl 0 rfl) ?_
    refine lv_iload_n hx hb dX8_isAllowed_68 rfl (lv_at hl 1 rfl) ?_
    refine lv_iload_n hx hb dX8_isAllowed_69 rfl (lv_at hl 2 rfl) ?_
    refine lv_iload_n hx hb dX8_isAllowed_70 rfl (lv_at hl 3 rfl) ?_
    refine xci (xRunV (rest := [.ref (E.2.1 15), .int x4]) (As := [.int x1, .int x2, .int x3]) (C := RX8) (k := 3) C0 (c_X8_keyOf l E g a x1 x2 x3) bw327 bw338 bw263 bw339 bw340 hd_X8_keyOf ⟨Nat.le_of_ble_eq_true rfl, Nat.le_of_ble_eq_true rfl⟩ hP (wX_D hD) hS (va_recv hK hP (ci := 8) rfl (gx_14 E g a)) rfl hl.1 rfl (Nat.le_of_ble_eq_true rfl) dX8_isAllowed_71 ⟨Nat.zero_le _, Nat.zero_le _⟩) hS (fun H locs hP hS => ?_)
    refine xci (xRunN (rest := [.int x4]) (As := [.ref (E.2.1 15), .int (t_X8_keyOf g a x1 x2 x3)]) (k := 2) C0 (c_at l E (wX E g a) 15 (t_X8_keyOf g a x1 x2 x3) (gx_15 E g a) (Nat.le_of_ble_eq_true rfl)) bw9 nw21 bw13 bw12 hd_X11_at ⟨Nat.le_of_ble_eq_true rfl, Nat.le_of_ble_eq_true rfl⟩ hP (wX_D hD) hS rfl hl.1 rfl (Nat.le_of_ble_eq_true rfl) dX8_isAllowed_74 ⟨Nat.zero_le _, Nat.zero_le _⟩) hS (fun H locs hP hS => ?_)
    refine xci (xRunN (rest := []) (As := [.int x4, .int (atF 729 (a 15) (t_X8_keyOf g a x1 x2 x3))]) (k := 2) C0 (c_isIn l E (wX E g a) x4 (atF 729 (a 15) (t_X8_keyOf g a x1 x2 x3))) bw8 nw20 bw13 bw18 hd_X11_isIn ⟨Nat.le_of_ble_eq_true rfl, Nat.le_of_ble_eq_true rfl⟩ hP (wX_D hD) hS rfl hl.1 rfl (Nat.le_of_ble_eq_true rfl) dX8_isAllowed_77 ⟨Nat.zero_le _, Nat.zero_le _⟩) hS (fun H locs hP hS => ?_)
    obtain ⟨k2, hf⟩ := ck_some hf
    exact xz_retS (fr := (fun r => r)) (fw := (fun r => wX E g a)) hx hb hr hlocks (Option.some.inj hf) (boB_bo k2) hP hS dX8_isAllowed_80
  refine lv_aload_n hx hb dX8_isAllowed_0 rfl (lv_at hl 0 rfl) ?_
  refine va_get (C := RX8) (T := TX8) (N := 8) hx hb hw bfX80 hown hK hP 14 (gx_14 E g a) rfl 6 (by decide) (hw _ bw251) (fun _ h9 => h9) rfl dX8_isAllowed_1 ?_
  refine lv_iload_n hx hb dX8_isAllowed_4 rfl (lv_at hl 1 rfl) ?_
  refine xci (xRunN (rest := []) (As := [.ref (E.2.1 18), .int v1]) (k := 2) C0 (c_at l E (wX E g a) 18 v1 (gx_18 E g a) (Nat.le_of_ble_eq_true rfl)) bw9 nw21 bw13 bw12 hd_X11_at ⟨Nat.le_of_ble_eq_true rfl, Nat.le_of_ble_eq_true rfl⟩ hP (wX_D hD) hS rfl hl.1 rfl (Nat.le_of_ble_eq_true rfl) dX8_isAllowed_5 ⟨Nat.zero_le _, Nat.zero_le _⟩) hS (fun H locs hP hS => ?_)
  refine lv_aload_n hx hb dX8_isAllowed_8 rfl (lv_at hl 0 rfl) ?_
  refine va_get (C := RX8) (T := TX8) (N := 8) hx hb hw bfX80 hown hK hP 14 (gx_14 E g a) rfl 0 (by decide) (hw _ bw252) (fun _ h9 => h9) rfl dX8_isAllowed_9 ?_
  refine lv_iconst (v := 1) hx hb dX8_isAllowed_12 (by decide) ?_
  refine xci (xRunV (rest := [.int (atF 27 (a 18) v1)]) (As := [.int 1]) (C := RX4) (k := 1) C0 (c_X4_power l E g a 1) bw55 bw334 bw22 bw58 bw59 hd_X4_power ⟨Nat.le_of_ble_eq_true rfl, Nat.le_of_ble_eq_true rfl⟩ hP (wX_D hD) hS (va_recv hK hP (ci := 4) rfl (gx_1 E g a)) rfl hl.1 rfl (Nat.le_of_ble_eq_true rfl) dX8_isAllowed_13 ⟨Nat.zero_le _, Nat.zero_le _⟩) hS (fun H locs hP hS => ?_)
  refine lv_aload_n hx hb dX8_isAllowed_16 rfl (lv_at hl 0 rfl) ?_
  refine va_get (C := RX8) (T := TX8) (N := 8) hx hb hw bfX80 hown hK hP 14 (gx_14 E g a) rfl 6 (by decide) (hw _ bw251) (fun _ h9 => h9) rfl dX8_isAllowed_17 ?_
  refine lv_iload_n hx hb dX8_isAllowed_20 rfl (lv_at hl 2 rfl) ?_
  refine xci (xRunN (rest := [.int (t_X4_power g a 1), .int (atF 27 (a 18) v1)]) (As := [.ref (E.2.1 18), .int v2]) (k := 2) C0 (c_at l E (wX E g a) 18 v2 (gx_18 E g a) (Nat.le_of_ble_eq_true rfl)) bw9 nw21 bw13 bw12 hd_X11_at ⟨Nat.le_of_ble_eq_true rfl, Nat.le_of_ble_eq_true rfl⟩ hP (wX_D hD) hS rfl hl.1 rfl (Nat.le_of_ble_eq_true rfl) dX8_isAllowed_21 ⟨Nat.zero_le _, Nat.zero_le _⟩) hS (fun H locs hP hS => ?_)
  refine lv_imul hx hb dX8_isAllowed_24 ?_
  refine lv_iadd hx hb dX8_isAllowed_25 ?_
  refine lv_istore (lv' := [(4, .int ((atF 27 (a 18) v1) + ((t_X4_power g a 1) * (atF 27 (a 18) v2)))), (0, .ref (E.2.1 14)), (1, .int v1), (2, .int v2), (3, .int v3)]) hx hb dX8_isAllowed_26 hl (by decide) rfl (fun ls hl => ?_)
  refine lv_aload_n hx hb dX8_isAllowed_28 rfl (lv_at hl 1 rfl) ?_
  refine va_get (C := RX8) (T := TX8) (N := 8) hx hb hw bfX80 hown hK hP 14 (gx_14 E g a) rfl 0 (by decide) (hw _ bw252) (fun _ h9 => h9) rfl dX8_isAllowed_29 ?_
  refine xci (xRunV (rest := []) (As := []) (C := RX4) (k := 0) C0 (c_X4_widest l E g a) bw96 bw329 bw22 bw105 bw106 hd_X4_widest ⟨Nat.le_of_ble_eq_true rfl, Nat.le_of_ble_eq_true rfl⟩ hP (wX_D hD) hS (va_recv hK hP (ci := 4) rfl (gx_1 E g a)) rfl hl.1 rfl (Nat.le_of_ble_eq_true rfl) dX8_isAllowed_32 ⟨Nat.zero_le _, Nat.zero_le _⟩) hS (fun H locs hP hS => ?_)
  refine lv_iconst (v := 2) hx hb dX8_isAllowed_35 (by decide) ?_
  refine lv_icmp_le (tgt := 61) hx hb dX8_isAllowed_36 (by decide) (fun c1 => ?_) (fun c1 => ?_)
  · replace hf := (if_pos c1).symm.trans hf
    exact B61 v1 v2 v3 ((atF 27 (a 18) v1) + ((t_X4_power g a 1) * (atF 27 (a 18) v2))) _ _ _ hP hS (lv_sub hl [1, 2, 3, 4, 0] rfl) hf
  · replace hf := (if_neg c1).symm.trans hf
    refine lv_iload hx hb dX8_isAllowed_39 (lv_at hl 0 rfl) ?_
    refine lv_aload_n hx hb dX8_isAllowed_41 rfl (lv_at hl 1 rfl) ?_
    refine va_get (C := RX8) (T := TX8) (N := 8) hx hb hw bfX80 hown hK hP 14 (gx_14 E g a) rfl 0 (by decide) (hw _ bw252) (fun _ h9 => h9) rfl dX8_isAllowed_42 ?_
    refine lv_iconst (v := 2) hx hb dX8_isAllowed_45 (by decide) ?_
    refine xci (xRunV (rest := [.int ((atF 27 (a 18) v1) + ((t_X4_power g a 1) * (atF 27 (a 18) v2)))]) (As := [.int 2]) (C := RX4) (k := 1) C0 (c_X4_power l E g a 2) bw55 bw334 bw22 bw58 bw59 hd_X4_power ⟨Nat.le_of_ble_eq_true rfl, Nat.le_of_ble_eq_true rfl⟩ hP (wX_D hD) hS (va_recv hK hP (ci := 4) rfl (gx_1 E g a)) rfl hl.1 rfl (Nat.le_of_ble_eq_true rfl) dX8_isAllowed_46 ⟨Nat.zero_le _, Nat.zero_le _⟩) hS (fun H locs hP hS => ?_)
    refine lv_aload_n hx hb dX8_isAllowed_49 rfl (lv_at hl 1 rfl) ?_
    refine va_get (C := RX8) (T := TX8) (N := 8) hx hb hw bfX80 hown hK hP 14 (gx_14 E g a) rfl 6 (by decide) (hw _ bw251) (fun _ h9 => h9) rfl dX8_isAllowed_50 ?_
    refine lv_iload_n hx hb dX8_isAllowed_53 rfl (lv_at hl 4 rfl) ?_
    refine xci (xRunN (rest := [.int (t_X4_power g a 2), .int ((atF 27 (a 18) v1) + ((t_X4_power g a 1) * (atF 27 (a 18) v2)))]) (As := [.ref (E.2.1 18), .int v3]) (k := 2) C0 (c_at l E (wX E g a) 18 v3 (gx_18 E g a) (Nat.le_of_ble_eq_true rfl)) bw9 nw21 bw13 bw12 hd_X11_at ⟨Nat.le_of_ble_eq_true rfl, Nat.le_of_ble_eq_true rfl⟩ hP (wX_D hD) hS rfl hl.1 rfl (Nat.le_of_ble_eq_true rfl) dX8_isAllowed_54 ⟨Nat.zero_le _, Nat.zero_le _⟩) hS (fun H locs hP hS => ?_)
    refine lv_imul hx hb dX8_isAllowed_57 ?_
    refine lv_iadd hx hb dX8_isAllowed_58 ?_
    refine lv_istore (lv' := [(4, .int (((atF 27 (a 18) v1) + ((t_X4_power g a 1) * (atF 27 (a 18) v2))) + ((t_X4_power g a 2) * (atF 27 (a 18) v3)))), (0, .ref (E.2.1 14)), (1, .int v1), (2, .int v2), (3, .int v3)]) hx hb dX8_isAllowed_59 hl (by decide) rfl (fun ls hl => ?_)
    exact B61 v1 v2 v3 (((atF 27 (a 18) v1) + ((t_X4_power g a 1) * (atF 27 (a 18) v2))) + ((t_X4_power g a 2) * (atF 27 (a 18) v3))) _ _ _ hP hS (lv_sub hl [1, 2, 3, 4, 0] rfl) hf
def f_X8_isFitting_49 (g : xG) (a : xA) (K29 : Int32 → Int32 → Int32 → Int32 → Option (Int32)) : Nat → Int32 → Int32 → Int32 → Int32 → Int32 → Int32 → Option (Int32)
  | 0, _, _, _, _, _, _ => none
  | n + 1, x1, x2, x3, x4, x5, x6 => (if x3 < x6 then K29 x1 x2 x3 (x4 + 1) else Option.bind (f_X8_isAllowed g a x2 x5 (atF 27 (a 17) x6)) (fun u4 => (if u4 = 0 then some 0 else Option.bind (f_X8_isAllowed g a x5 x2 (atF 27 (a 17) x6)) (fun u7 => (if u7 = 0 then some 0 else Option.bind (f_X8_isAllowed g a x5 (atF 27 (a 17) x6) x2) (fun u10 => (if u10 = 0 then some 0 else f_X8_isFitting_49 g a K29 n x1 x2 x3 x4 x5 (x6 + 1))))))))
theorem e_X8_isFitting_49 (g : xG) (a : xA) (K29 : Int32 → Int32 → Int32 → Int32 → Option (Int32)) (n : Nat) (x1 : Int32) (x2 : Int32) (x3 : Int32) (x4 : Int32) (x5 : Int32) (x6 : Int32) : f_X8_isFitting_49 g a K29 (n + 1) x1 x2 x3 x4 x5 x6 = (if x3 < x6 then K29 x1 x2 x3 (x4 + 1) else Option.bind (f_X8_isAllowed g a x2 x5 (atF 27 (a 17) x6)) (fun u4 => (if u4 = 0 then some 0 else Option.bind (f_X8_isAllowed g a x5 x2 (atF 27 (a 17) x6)) (fun u7 => (if u7 = 0 then some 0 else Option.bind (f_X8_isAllowed g a x5 (atF 27 (a 17) x6) x2) (fun u10 => (if u10 = 0 then some 0 else f_X8_isFitting_49 g a K29 n x1 x2 x3 x4 x5 (x6 + 1)))))))) := rfl
def f_X8_isFitting_29 (g : xG) (a : xA) : Nat → Int32 → Int32 → Int32 → Int32 → Option (Int32)
  | 0, _, _, _, _ => none
  | n + 1, x1, x2, x3, x4 => (if x1 < x4 then some 1 else f_X8_isFitting_49 g a (f_X8_isFitting_29 g a n) fu x1 x2 x3 x4 (atF 27 (a 17) x4) 0)
theorem e_X8_isFitting_29 (g : xG) (a : xA) (n : Nat) (x1 : Int32) (x2 : Int32) (x3 : Int32) (x4 : Int32) : f_X8_isFitting_29 g a (n + 1) x1 x2 x3 x4 = (if x1 < x4 then some 1 else f_X8_isFitting_49 g a (f_X8_isFitting_29 g a n) fu x1 x2 x3 x4 (atF 27 (a 17) x4) 0) := rfl
def f_X8_isFitting (g : xG) (a : xA) (v1 : Int32) : Option (Int32) := (if (t_X4_widest g a) ≤ 2 then f_X8_isFitting_29 g a fu v1 (atF 27 (a 17) v1) 0 0 else f_X8_isFitting_29 g a fu v1 (atF 27 (a 17) v1) v1 0)
set_option maxRecDepth 100000 in
set_option maxHeartbeats 40000000 in
theorem c_X8_isFitting (l : Launch) (E : xE) (g : xG) (a : xA) (v1 : Int32) {res : Int32} (hf : f_X8_isFitting g a v1 = some res) : xM l E yX8_isFitting cX8_isFitting 8 (some .boolean) 3 67 [.ref (E.2.1 14), .int v1] (wX E g a) (xQi E res (wX E g a)) := by
  unfold f_X8_isFitting at hf
  refine xM_of (by decide) (Nat.le_of_ble_eq_true rfl) ?_
  intro p e s m below meth c A hx hb hr hml hts hown hlocks hA hD hP hK hN hS ls hl
  have hw : ∀ w ∈ BW, w.before _ s = true := fun w h => hts w (List.mem_cons_of_mem _ h)
  have C0 : xCtx E p m c cX8_isFitting 8 s _ RX8 A yX8_isFitting cX8_isFitting 8 (some .boolean) := ⟨hx, hb, hml, hown, hts, hA, hK, hN⟩
  have hl : lv_has ls 8 [(0, .ref (E.2.1 14)), (1, .int v1)] := hl
  have B49 : ∀ (K29 : Int32 → Int32 → Int32 → Int32 → Option (Int32)) (hK29 : ∀ (x1 : Int32) (x2 : Int32) (x3 : Int32) (x4 : Int32) (H : Heap) (locs : List Loc) (ls : Array Slot), va_P E.1 vwCl (wX E g a) H → va_S A s.heap H locs → lv_has ls 8 [(0, .ref (E.2.1 14)), (1, .int x1), (2, .int x2), (3, .int x3), (4, .int x4)] → K29 x1 x2 x3 x4 = some res → W p l e ({ frames := 3, cells := 0, slots := 0, locals := 67 }) s m ([.ref (E.2.1 14), .int v1] : List Value).toArray below meth c H locs 0 0 (MQ below ((xQi E res (wX E g a)) A) ([.ref (E.2.1 14), .int v1] : List Value).toArray s 0 0 A) (F0 m 29 ls [])) (n : Nat) (x1 : Int32) (x2 : Int32) (x3 : Int32) (x4 : Int32) (x5 : Int32) (x6 : Int32) (H : Heap) (locs : List Loc) (ls : Array Slot), va_P E.1 vwCl (wX E g a) H → va_S A s.heap H locs → lv_has ls 8 [(0, .ref (E.2.1 14)), (1, .int x1), (2, .int x2), (3, .int x3), (4, .int x4), (5, .int x5), (6, .int x6)] → f_X8_isFitting_49 g a K29 n x1 x2 x3 x4 x5 x6 = some res → W p l e ({ frames := 3, cells := 0, slots := 0, locals := 67 }) s m ([.ref (E.2.1 14), .int v1] : List Value).toArray below meth c H locs 0 0 (MQ below ((xQi E res (wX E g a)) A) ([.ref (E.2.1 14), .int v1] : List Value).toArray s 0 0 A) (F0 m 49 ls []) := by
    intro K29 hK29 n
    induction n with
    | zero => intro x1 x2 x3 x4 x5 x6 H locs ls hP hS hl hf; exact absurd (show (none : Option (Int32)) = some res from hf) (by intro h; cases h)
    | succ n ih =>
      intro x1 x2 x3 x4 x5 x6 H locs ls hP hS hl hf
      replace hf := (e_X8_isFitting_49 g a K29 n x1 x2 x3 x4 x5 x6).symm.trans hf
      refine lv_iload hx hb dX8_isFitting_49 (lv_at hl 6 rfl) ?_
      refine lv_iload_n hx hb dX8_isFitting_51 rfl (lv_at hl 3 rfl) ?_
      refine lv_icmp_gt (tgt := 110) hx hb dX8_isFitting_52 (by decide) (fun c3 => ?_) (fun c3 => ?_)
      · replace hf := (if_pos c3).symm.trans hf
        refine lv_iinc (v := (x4 + 1)) (lv' := [(4, .int (x4 + 1)), (0, .ref (E.2.1 14)), (1, .int x1), (2, .int x2), (3, .int x3), (5, .int x5), (6, .int x6)]) hx hb dX8_isFitting_110 hl (k := 4) rfl rfl (by decide) rfl (fun ls hl => ?_)
        refine lv_goto (tgt := 29) hx hb dX8_isFitting_113 (by decide) ?_
        exact hK29 x1 x2 x3 (x4 + 1) _ _ _ hP hS (lv_sub hl [1, 2, 3, 4, 0] rfl) hf
      · replace hf := (if_neg c3).symm.trans hf
        refine lv_aload_n hx hb dX8_isFitting_55 rfl (lv_at hl 0 rfl) ?_
        refine va_get (C := RX8) (T := TX8) (N := 8) hx hb hw bfX80 hown hK hP 14 (gx_14 E g a) rfl 5 (by decide) (hw _ bw250) (fun _ h9 => h9) rfl dX8_isFitting_56 ?_
        refine lv_iload hx hb dX8_isFitting_59 (lv_at hl 6 rfl) ?_
        refine xci (xRunN (rest := []) (As := [.ref (E.2.1 17), .int x6]) (k := 2) C0 (c_at l E (wX E g a) 17 x6 (gx_17 E g a) (Nat.le_of_ble_eq_true rfl)) bw9 nw21 bw13 bw12 hd_X11_at ⟨Nat.le_of_ble_eq_true rfl, Nat.le_of_ble_eq_true rfl⟩ hP (wX_D hD) hS rfl hl.1 rfl (Nat.le_of_ble_eq_true rfl) dX8_isFitting_61 ⟨Nat.zero_le _, Nat.zero_le _⟩) hS (fun H locs hP hS => ?_)
        refine lv_istore (lv' := [(7, .int (atF 27 (a 17) x6)), (0, .ref (E.2.1 14)), (1, .int x1), (2, .int x2), (3, .int x3), (4, .int x4), (5, .int x5), (6, .int x6)]) hx hb dX8_isFitting_64 hl (by decide) rfl (fun ls hl => ?_)
        refine lv_aload_n hx hb dX8_isFitting_66 rfl (lv_at hl 1 rfl) ?_
        refine lv_iload_n hx hb dX8_isFitting_67 rfl (lv_at hl 3 rfl) ?_
        refine lv_iload hx hb dX8_isFitting_68 (lv_at hl 6 rfl) ?_
        refine lv_iload hx hb dX8_isFitting_70 (lv_at hl 0 rfl) ?_
        obtain ⟨u4, e5, hf⟩ := bd_some hf
        refine xci (xRunV (rest := []) (As := [.int x2, .int x5, .int (atF 27 (a 17) x6)]) (C := RX8) (k := 3) C0 (c_X8_isAllowed l E g a x2 x5 (atF 27 (a 17) x6) e5) bw363 bw364 bw263 bw365 bw366 hd_X8_isAllowed ⟨Nat.le_of_ble_eq_true rfl, Nat.le_of_ble_eq_true rfl⟩ hP (wX_D hD) hS (va_recv hK hP (ci := 8) rfl (gx_14 E g a)) rfl hl.1 rfl (Nat.le_of_ble_eq_true rfl) dX8_isFitting_72 ⟨Nat.zero_le _, Nat.zero_le _⟩) hS (fun H locs hP hS => ?_)
        refine lv_if_eq (tgt := 102) hx hb dX8_isFitting_75 (by decide) (fun c6 => ?_) (fun c6 => ?_)
        · replace hf := (if_pos c6).symm.trans hf
          refine lv_iconst (v := 0) hx hb dX8_isFitting_102 (by decide) ?_
          exact xz_retS (fr := (fun r => r)) (fw := (fun r => wX E g a)) hx hb hr hlocks (Option.some.inj hf) nz0 hP hS dX8_isFitting_103
        · replace hf := (if_neg c6).symm.trans hf
          refine lv_aload_n hx hb dX8_isFitting_78 rfl (lv_at hl 1 rfl) ?_
          refine lv_iload hx hb dX8_isFitting_79 (lv_at hl 6 rfl) ?_
          refine lv_iload_n hx hb dX8_isFitting_81 rfl (lv_at hl 3 rfl) ?_
          refine lv_iload hx hb dX8_isFitting_82 (lv_at hl 0 rfl) ?_
          obtain ⟨u7, e8, hf⟩ := bd_some hf
          refine xci (xRunV (rest := []) (As := [.int x5, .int x2, .int (atF 27 (a 17) x6)]) (C := RX8) (k := 3) C0 (c_X8_isAllowed l E g a x5 x2 (atF 27 (a 17) x6) e8) bw363 bw364 bw263 bw365 bw366 hd_X8_isAllowed ⟨Nat.le_of_ble_eq_true rfl, Nat.le_of_ble_eq_true rfl⟩ hP (wX_D hD) hS (va_recv hK hP (ci := 8) rfl (gx_14 E g a)) rfl hl.1 rfl (Nat.le_of_ble_eq_true rfl) dX8_isFitting_84 ⟨Nat.zero_le _, Nat.zero_le _⟩) hS (fun H locs hP hS => ?_)
          refine lv_if_eq (tgt := 102) hx hb dX8_isFitting_87 (by decide) (fun c9 => ?_) (fun c9 => ?_)
          · replace hf := (if_pos c9).symm.trans hf
            refine lv_iconst (v := 0) hx hb dX8_isFitting_102 (by decide) ?_
            exact xz_retS (fr := (fun r => r)) (fw := (fun r => wX E g a)) hx hb hr hlocks (Option.some.inj hf) nz0 hP hS dX8_isFitting_103
          · replace hf := (if_neg c9).symm.trans hf
            refine lv_aload_n hx hb dX8_isFitting_90 rfl (lv_at hl 1 rfl) ?_
            refine lv_iload hx hb dX8_isFitting_91 (lv_at hl 6 rfl) ?_
            refine lv_iload hx hb dX8_isFitting_93 (lv_at hl 0 rfl) ?_
            refine lv_iload_n hx hb dX8_isFitting_95 rfl (lv_at hl 3 rfl) ?_
            obtain ⟨u10, e11, hf⟩ := bd_some hf
            refine xci (xRunV (rest := []) (As := [.int x5, .int (atF 27 (a 17) x6), .int x2]) (C := RX8) (k := 3) C0 (c_X8_isAllowed l E g a x5 (atF 27 (a 17) x6) x2 e11) bw363 bw364 bw263 bw365 bw366 hd_X8_isAllowed ⟨Nat.le_of_ble_eq_true rfl, Nat.le_of_ble_eq_true rfl⟩ hP (wX_D hD) hS (va_recv hK hP (ci := 8) rfl (gx_14 E g a)) rfl hl.1 rfl (Nat.le_of_ble_eq_true rfl) dX8_isFitting_96 ⟨Nat.zero_le _, Nat.zero_le _⟩) hS (fun H locs hP hS => ?_)
            refine lv_if_ne (tgt := 104) hx hb dX8_isFitting_99 (by decide) (fun c12 => ?_) (fun c12 => ?_)
            · replace hf := (if_neg c12).symm.trans hf
              refine lv_iinc (v := (x6 + 1)) (lv' := [(6, .int (x6 + 1)), (7, .int (atF 27 (a 17) x6)), (0, .ref (E.2.1 14)), (1, .int x1), (2, .int x2), (3, .int x3), (4, .int x4), (5, .int x5)]) hx hb dX8_isFitting_104 hl (k := 7) rfl rfl (by decide) rfl (fun ls hl => ?_)
              refine lv_goto (tgt := 49) hx hb dX8_isFitting_107 (by decide) ?_
              exact ih x1 x2 x3 x4 x5 (x6 + 1) _ _ _ hP hS (lv_sub hl [2, 3, 4, 5, 6, 7, 0] rfl) hf
            · replace hf := (if_pos c12).symm.trans hf
              refine lv_iconst (v := 0) hx hb dX8_isFitting_102 (by decide) ?_
              exact xz_retS (fr := (fun r => r)) (fw := (fun r => wX E g a)) hx hb hr hlocks (Option.some.inj hf) nz0 hP hS dX8_isFitting_103
  have B29 : ∀ (n : Nat) (x1 : Int32) (x2 : Int32) (x3 : Int32) (x4 : Int32) (H : Heap) (locs : List Loc) (ls : Array Slot), va_P E.1 vwCl (wX E g a) H → va_S A s.heap H locs → lv_has ls 8 [(0, .ref (E.2.1 14)), (1, .int x1), (2, .int x2), (3, .int x3), (4, .int x4)] → f_X8_isFitting_29 g a n x1 x2 x3 x4 = some res → W p l e ({ frames := 3, cells := 0, slots := 0, locals := 67 }) s m ([.ref (E.2.1 14), .int v1] : List Value).toArray below meth c H locs 0 0 (MQ below ((xQi E res (wX E g a)) A) ([.ref (E.2.1 14), .int v1] : List Value).toArray s 0 0 A) (F0 m 29 ls []) := by
    intro n
    induction n with
    | zero => intro x1 x2 x3 x4 H locs ls hP hS hl hf; exact absurd (show (none : Option (Int32)) = some res from hf) (by intro h; cases h)
    | succ n ih =>
      intro x1 x2 x3 x4 H locs ls hP hS hl hf
      replace hf := (e_X8_isFitting_29 g a n x1 x2 x3 x4).symm.trans hf
      refine lv_iload hx hb dX8_isFitting_29 (lv_at hl 4 rfl) ?_
      refine lv_iload_n hx hb dX8_isFitting_31 rfl (lv_at hl 1 rfl) ?_
      refine lv_icmp_gt (tgt := 116) hx hb dX8_isFitting_32 (by decide) (fun c2 => ?_) (fun c2 => ?_)
      · replace hf := (if_pos c2).symm.trans hf
        refine lv_iconst (v := 1) hx hb dX8_isFitting_116 (by decide) ?_
        exact xz_retS (fr := (fun r => r)) (fw := (fun r => wX E g a)) hx hb hr hlocks (Option.some.inj hf) nz1 hP hS dX8_isFitting_117
      · replace hf := (if_neg c2).symm.trans hf
        refine lv_aload_n hx hb dX8_isFitting_35 rfl (lv_at hl 0 rfl) ?_
        refine va_get (C := RX8) (T := TX8) (N := 8) hx hb hw bfX80 hown hK hP 14 (gx_14 E g a) rfl 5 (by decide) (hw _ bw250) (fun _ h9 => h9) rfl dX8_isFitting_36 ?_
        refine lv_iload hx hb dX8_isFitting_39 (lv_at hl 4 rfl) ?_
        refine xci (xRunN (rest := []) (As := [.ref (E.2.1 17), .int x4]) (k := 2) C0 (c_at l E (wX E g a) 17 x4 (gx_17 E g a) (Nat.le_of_ble_eq_true rfl)) bw9 nw21 bw13 bw12 hd_X11_at ⟨Nat.le_of_ble_eq_true rfl, Nat.le_of_ble_eq_true rfl⟩ hP (wX_D hD) hS rfl hl.1 rfl (Nat.le_of_ble_eq_true rfl) dX8_isFitting_41 ⟨Nat.zero_le _, Nat.zero_le _⟩) hS (fun H locs hP hS => ?_)
        refine lv_istore (lv' := [(5, .int (atF 27 (a 17) x4)), (0, .ref (E.2.1 14)), (1, .int x1), (2, .int x2), (3, .int x3), (4, .int x4)]) hx hb dX8_isFitting_44 hl (by decide) rfl (fun ls hl => ?_)
        refine lv_iconst (v := 0) hx hb dX8_isFitting_46 (by decide) ?_
        refine lv_istore (lv' := [(6, .int 0), (5, .int (atF 27 (a 17) x4)), (0, .ref (E.2.1 14)), (1, .int x1), (2, .int x2), (3, .int x3), (4, .int x4)]) hx hb dX8_isFitting_47 hl (by decide) rfl (fun ls hl => ?_)
        exact B49 (f_X8_isFitting_29 g a n) ih fu x1 x2 x3 x4 (atF 27 (a 17) x4) 0 _ _ _ hP hS (lv_sub hl [2, 3, 4, 5, 6, 1, 0] rfl) hf
  refine lv_aload_n hx hb dX8_isFitting_0 rfl (lv_at hl 0 rfl) ?_
  refine va_get (C := RX8) (T := TX8) (N := 8) hx hb hw bfX80 hown hK hP 14 (gx_14 E g a) rfl 5 (by decide) (hw _ bw250) (fun _ h9 => h9) rfl dX8_isFitting_1 ?_
  refine lv_iload_n hx hb dX8_isFitting_4 rfl (lv_at hl 1 rfl) ?_
  refine xci (xRunN (rest := []) (As := [.ref (E.2.1 17), .int v1]) (k := 2) C0 (c_at l E (wX E g a) 17 v1 (gx_17 E g a) (Nat.le_of_ble_eq_true rfl)) bw9 nw21 bw13 bw12 hd_X11_at ⟨Nat.le_of_ble_eq_true rfl, Nat.le_of_ble_eq_true rfl⟩ hP (wX_D hD) hS rfl hl.1 rfl (Nat.le_of_ble_eq_true rfl) dX8_isFitting_5 ⟨Nat.zero_le _, Nat.zero_le _⟩) hS (fun H locs hP hS => ?_)
  refine lv_istore_n (lv' := [(2, .int (atF 27 (a 17) v1)), (0, .ref (E.2.1 14)), (1, .int v1)]) hx hb dX8_isFitting_8 rfl hl (by decide) rfl (fun ls hl => ?_)
  refine lv_aload_n hx hb dX8_isFitting_9 rfl (lv_at hl 1 rfl) ?_
  refine va_get (C := RX8) (T := TX8) (N := 8) hx hb hw bfX80 hown hK hP 14 (gx_14 E g a) rfl 0 (by decide) (hw _ bw252) (fun _ h9 => h9) rfl dX8_isFitting_10 ?_
  refine xci (xRunV (rest := []) (As := []) (C := RX4) (k := 0) C0 (c_X4_widest l E g a) bw96 bw329 bw22 bw105 bw106 hd_X4_widest ⟨Nat.le_of_ble_eq_true rfl, Nat.le_of_ble_eq_true rfl⟩ hP (wX_D hD) hS (va_recv hK hP (ci := 4) rfl (gx_1 E g a)) rfl hl.1 rfl (Nat.le_of_ble_eq_true rfl) dX8_isFitting_13 ⟨Nat.zero_le _, Nat.zero_le _⟩) hS (fun H locs hP hS => ?_)
  refine lv_iconst (v := 2) hx hb dX8_isFitting_16 (by decide) ?_
  refine lv_icmp_le (tgt := 24) hx hb dX8_isFitting_17 (by decide) (fun c1 => ?_) (fun c1 => ?_)
  · replace hf := (if_pos c1).symm.trans hf
    refine lv_iconst (v := 0) hx hb dX8_isFitting_24 (by decide) ?_
    refine lv_istore_n (lv' := [(3, .int 0), (2, .int (atF 27 (a 17) v1)), (0, .ref (E.2.1 14)), (1, .int v1)]) hx hb dX8_isFitting_25 rfl hl (by decide) rfl (fun ls hl => ?_)
    refine lv_iconst (v := 0) hx hb dX8_isFitting_26 (by decide) ?_
    refine lv_istore (lv' := [(4, .int 0), (3, .int 0), (2, .int (atF 27 (a 17) v1)), (0, .ref (E.2.1 14)), (1, .int v1)]) hx hb dX8_isFitting_27 hl (by decide) rfl (fun ls hl => ?_)
    exact B29 fu v1 (atF 27 (a 17) v1) 0 0 _ _ _ hP hS (lv_sub hl [3, 4, 2, 1, 0] rfl) hf
  · replace hf := (if_neg c1).symm.trans hf
    refine lv_iload_n hx hb dX8_isFitting_20 rfl (lv_at hl 2 rfl) ?_
    refine lv_goto (tgt := 25) hx hb dX8_isFitting_21 (by decide) ?_
    refine lv_istore_n (lv' := [(3, .int v1), (2, .int (atF 27 (a 17) v1)), (0, .ref (E.2.1 14)), (1, .int v1)]) hx hb dX8_isFitting_25 rfl hl (by decide) rfl (fun ls hl => ?_)
    refine lv_iconst (v := 0) hx hb dX8_isFitting_26 (by decide) ?_
    refine lv_istore (lv' := [(4, .int 0), (3, .int v1), (2, .int (atF 27 (a 17) v1)), (0, .ref (E.2.1 14)), (1, .int v1)]) hx hb dX8_isFitting_27 hl (by decide) rfl (fun ls hl => ?_)
    exact B29 fu v1 (atF 27 (a 17) v1) v1 0 _ _ _ hP hS (lv_sub hl [3, 4, 2, 1, 0] rfl) hf
def f_X8_isCompleted_21 (self : xG → xA → Int32 → Option (Int32 × xA)) (g : xG) : Nat → xA → Int32 → Int32 → Int32 → Option (Int32 × xA)
  | 0, _, _, _, _ => none
  | n + 1, a, x1, x2, x3 => (if (g 0) ≤ x3 then some (0, a) else (if (isInF x3 (atF 27 (a 16) x2)) = 0 then f_X8_isCompleted_21 self g n a x1 x2 (x3 + 1) else Option.bind (f_X8_isFitting g (upA a 18 (putF 27 (a 18) x2 x3)) x1) (fun u4 => (if u4 = 0 then f_X8_isCompleted_21 self g n (upA a 18 (putF 27 (a 18) x2 x3)) x1 x2 (x3 + 1) else Option.bind (self g (upA a 18 (putF 27 (a 18) x2 x3)) (x1 + 1)) (fun u7 => (if u7.1 = 0 then f_X8_isCompleted_21 self g n u7.2 x1 x2 (x3 + 1) else some (1, u7.2)))))))
theorem e_X8_isCompleted_21 (self : xG → xA → Int32 → Option (Int32 × xA)) (g : xG) (n : Nat) (a : xA) (x1 : Int32) (x2 : Int32) (x3 : Int32) : f_X8_isCompleted_21 self g (n + 1) a x1 x2 x3 = (if (g 0) ≤ x3 then some (0, a) else (if (isInF x3 (atF 27 (a 16) x2)) = 0 then f_X8_isCompleted_21 self g n a x1 x2 (x3 + 1) else Option.bind (f_X8_isFitting g (upA a 18 (putF 27 (a 18) x2 x3)) x1) (fun u4 => (if u4 = 0 then f_X8_isCompleted_21 self g n (upA a 18 (putF 27 (a 18) x2 x3)) x1 x2 (x3 + 1) else Option.bind (self g (upA a 18 (putF 27 (a 18) x2 x3)) (x1 + 1)) (fun u7 => (if u7.1 = 0 then f_X8_isCompleted_21 self g n u7.2 x1 x2 (x3 + 1) else some (1, u7.2))))))) := rfl
def b_X8_isCompleted (self : xG → xA → Int32 → Option (Int32 × xA)) (g : xG) (a : xA) (v1 : Int32) : Option (Int32 × xA) := (if v1 < (g 5) then f_X8_isCompleted_21 self g fu a v1 (atF 27 (a 17) v1) 0 else some (1, a))
def f_X8_isCompleted : Nat → xG → xA → Int32 → Option (Int32 × xA)
  | 0, _, _, _ => none
  | n + 1, g, a, v1 => b_X8_isCompleted (f_X8_isCompleted n) g a v1
set_option maxRecDepth 100000 in
set_option maxHeartbeats 40000000 in
theorem cb_X8_isCompleted (l : Launch) (E : xE) (self : xG → xA → Int32 → Option (Int32 × xA)) (F0_ L0 F L : Nat) (hself : ∀ (g : xG) (a : xA) (v1 : Int32) (res : Int32 × xA), self g a v1 = some res → xM l E yX8_isCompleted cX8_isCompleted 4 (some .boolean) F0_ L0 [.ref (E.2.1 14), .int v1] (wX E g a) (xQi E res.1 (wX E g res.2))) (hself_room : F0_ + 1 ≤ F ∧ 8 + (4 + 11) + L0 ≤ L) (hF : 4 ≤ F) (hL : 94 ≤ L) (g : xG) (a : xA) (v1 : Int32) {res : Int32 × xA} (hf : b_X8_isCompleted self g a v1 = some res) : xM l E yX8_isCompleted cX8_isCompleted 4 (some .boolean) F L [.ref (E.2.1 14), .int v1] (wX E g a) (xQi E res.1 (wX E g res.2)) := by
  unfold b_X8_isCompleted at hf
  refine xM_of (by decide) (Nat.le_of_ble_eq_true rfl) ?_
  intro p e s m below meth c A hx hb hr hml hts hown hlocks hA hD hP hK hN hS ls hl
  have hw : ∀ w ∈ BW, w.before _ s = true := fun w h => hts w (List.mem_cons_of_mem _ h)
  have C0 : xCtx E p m c cX8_isCompleted 4 s _ RX8 A yX8_isCompleted cX8_isCompleted 4 (some .boolean) := ⟨hx, hb, hml, hown, hts, hA, hK, hN⟩
  have hl : lv_has ls 4 [(0, .ref (E.2.1 14)), (1, .int v1)] := hl
  have B21 : ∀ (n : Nat) (a : xA) (x1 : Int32) (x2 : Int32) (x3 : Int32) (H : Heap) (locs : List Loc) (ls : Array Slot), va_P E.1 vwCl (wX E g a) H → va_S A s.heap H locs → lv_has ls 4 [(0, .ref (E.2.1 14)), (1, .int x1), (2, .int x2), (3, .int x3)] → f_X8_isCompleted_21 self g n a x1 x2 x3 = some res → W p l e ({ frames := F, cells := 0, slots := 0, locals := L }) s m ([.ref (E.2.1 14), .int v1] : List Value).toArray below meth c H locs 0 0 (MQ below ((xQi E res.1 (wX E g res.2)) A) ([.ref (E.2.1 14), .int v1] : List Value).toArray s 0 0 A) (F0 m 21 ls []) := by
    intro n
    induction n with
    | zero => intro a x1 x2 x3 H locs ls hP hS hl hf; exact absurd (show (none : Option (Int32 × xA)) = some res from hf) (by intro h; cases h)
    | succ n ih =>
      intro a x1 x2 x3 H locs ls hP hS hl hf
      replace hf := (e_X8_isCompleted_21 self g n a x1 x2 x3).symm.trans hf
      refine lv_iload_n hx hb dX8_isCompleted_21 rfl (lv_at hl 3 rfl) ?_
      refine lv_aload_n hx hb dX8_isCompleted_22 rfl (lv_at hl 0 rfl) ?_
      refine va_get (C := RX8) (T := TX8) (N := 8) hx hb hw bfX80 hown hK hP 14 (gx_14 E g a) rfl 0 (by decide) (hw _ bw252) (fun _ h9 => h9) rfl dX8_isCompleted_23 ?_
      refine va_get (C := RX4) (T := TX4) (N := 3) hx hb hw bfX40 hown hK hP 1 (gx_1 E g a) rfl 0 (by decide) (hw _ bw368) (fun _ h9 => h9) rfl dX8_isCompleted_26 ?_
      refine lv_icmp_ge (tgt := 82) hx hb dX8_isCompleted_29 (by decide) (fun c2 => ?_) (fun c2 => ?_)
      · replace hf := (if_pos c2).symm.trans hf
        refine lv_iconst (v := 0) hx hb dX8_isCompleted_82 (by decide) ?_
        exact xz_retS (fr := (fun r => r.1)) (fw := (fun r => wX E g r.2)) hx hb hr hlocks (Option.some.inj hf) nz0 hP hS dX8_isCompleted_83
      · replace hf := (if_neg c2).symm.trans hf
        refine lv_iload_n hx hb dX8_isCompleted_32 rfl (lv_at hl 3 rfl) ?_
        refine lv_aload_n hx hb dX8_isCompleted_33 rfl (lv_at hl 0 rfl) ?_
        refine va_get (C := RX8) (T := TX8) (N := 8) hx hb hw bfX80 hown hK hP 14 (gx_14 E g a) rfl 4 (by decide) (hw _ bw249) (fun _ h9 => h9) rfl dX8_isCompleted_34 ?_
        refine lv_iload_n hx hb dX8_isCompleted_37 rfl (lv_at hl 2 rfl) ?_
        refine xci (xRunN (rest := [.int x3]) (As := [.ref (E.2.1 16), .int x2]) (k := 2) C0 (c_at l E (wX E g a) 16 x2 (gx_16 E g a) (Nat.le_of_ble_eq_true rfl)) bw9 nw21 bw13 bw12 hd_X11_at ⟨Nat.le_trans (by decide) hF, Nat.le_trans (by decide) hL⟩ hP (wX_D hD) hS rfl hl.1 rfl (Nat.le_of_ble_eq_true rfl) dX8_isCompleted_38 ⟨Nat.zero_le _, Nat.zero_le _⟩) hS (fun H locs hP hS => ?_)
        refine xci (xRunN (rest := []) (As := [.int x3, .int (atF 27 (a 16) x2)]) (k := 2) C0 (c_isIn l E (wX E g a) x3 (atF 27 (a 16) x2)) bw8 nw20 bw13 bw18 hd_X11_isIn ⟨Nat.le_trans (by decide) hF, Nat.le_trans (by decide) hL⟩ hP (wX_D hD) hS rfl hl.1 rfl (Nat.le_of_ble_eq_true rfl) dX8_isCompleted_41 ⟨Nat.zero_le _, Nat.zero_le _⟩) hS (fun H locs hP hS => ?_)
        refine lv_if_eq (tgt := 76) hx hb dX8_isCompleted_44 (by decide) (fun c3 => ?_) (fun c3 => ?_)
        · replace hf := (if_pos c3).symm.trans hf
          refine lv_iinc (v := (x3 + 1)) (lv' := [(3, .int (x3 + 1)), (0, .ref (E.2.1 14)), (1, .int x1), (2, .int x2)]) hx hb dX8_isCompleted_76 hl (k := 3) rfl rfl (by decide) rfl (fun ls hl => ?_)
          refine lv_goto (tgt := 21) hx hb dX8_isCompleted_79 (by decide) ?_
          exact ih a x1 x2 (x3 + 1) _ _ _ hP hS (lv_sub hl [1, 2, 3, 0] rfl) hf
        · replace hf := (if_neg c3).symm.trans hf
          refine lv_aload_n hx hb dX8_isCompleted_47 rfl (lv_at hl 0 rfl) ?_
          refine va_get (C := RX8) (T := TX8) (N := 8) hx hb hw bfX80 hown hK hP 14 (gx_14 E g a) rfl 6 (by decide) (hw _ bw251) (fun _ h9 => h9) rfl dX8_isCompleted_48 ?_
          refine lv_iload_n hx hb dX8_isCompleted_51 rfl (lv_at hl 2 rfl) ?_
          refine lv_iload_n hx hb dX8_isCompleted_52 rfl (lv_at hl 3 rfl) ?_
          refine xcv (xRunN (rest := []) (As := [.ref (E.2.1 18), .int x2, .int x3]) (k := 3) C0 (c_put l E (wX E g a) 18 x2 x3 (gx_18 E g a) (Nat.le_of_ble_eq_true rfl) (sx_a18 E g a (putF 27 (a 18) x2 x3))) bw14 nw22 bw13 bw23 hd_X11_put ⟨Nat.le_trans (by decide) hF, Nat.le_trans (by decide) hL⟩ hP (wX_D hD) hS rfl hl.1 rfl (Nat.le_of_ble_eq_true rfl) dX8_isCompleted_53 ⟨Nat.zero_le _, Nat.zero_le _⟩) hS (fun H locs hP hS => ?_)
          refine lv_aload_n hx hb dX8_isCompleted_56 rfl (lv_at hl 0 rfl) ?_
          refine lv_iload_n hx hb dX8_isCompleted_57 rfl (lv_at hl 1 rfl) ?_
          obtain ⟨u4, e5, hf⟩ := bd_some hf
          refine xci (xRunV (rest := []) (As := [.int x1]) (C := RX8) (k := 1) C0 (c_X8_isFitting l E g (upA a 18 (putF 27 (a 18) x2 x3)) x1 e5) bw367 bw369 bw263 bw370 bw371 hd_X8_isFitting ⟨Nat.le_trans (by decide) hF, Nat.le_trans (by decide) hL⟩ hP (wX_D hD) hS (va_recv hK hP (ci := 8) rfl (gx_14 E g (upA a 18 (putF 27 (a 18) x2 x3)))) rfl hl.1 rfl (Nat.le_of_ble_eq_true rfl) dX8_isCompleted_58 ⟨Nat.zero_le _, Nat.zero_le _⟩) hS (fun H locs hP hS => ?_)
          refine lv_if_eq (tgt := 76) hx hb dX8_isCompleted_61 (by decide) (fun c6 => ?_) (fun c6 => ?_)
          · replace hf := (if_pos c6).symm.trans hf
            refine lv_iinc (v := (x3 + 1)) (lv' := [(3, .int (x3 + 1)), (0, .ref (E.2.1 14)), (1, .int x1), (2, .int x2)]) hx hb dX8_isCompleted_76 hl (k := 3) rfl rfl (by decide) rfl (fun ls hl => ?_)
            refine lv_goto (tgt := 21) hx hb dX8_isCompleted_79 (by decide) ?_
            exact ih (upA a 18 (putF 27 (a 18) x2 x3)) x1 x2 (x3 + 1) _ _ _ hP hS (lv_sub hl [1, 2, 3, 0] rfl) hf
          · replace hf := (if_neg c6).symm.trans hf
            refine lv_aload_n hx hb dX8_isCompleted_64 rfl (lv_at hl 0 rfl) ?_
            refine lv_iload_n hx hb dX8_isCompleted_65 rfl (lv_at hl 1 rfl) ?_
            refine lv_iconst (v := 1) hx hb dX8_isCompleted_66 (by decide) ?_
            refine lv_iadd hx hb dX8_isCompleted_67 ?_
            obtain ⟨u7, e8, hf⟩ := bd_some hf
            refine xci (xRunS (rest := []) (As := [.ref (E.2.1 14), .int (x1 + 1)]) (k := 2) C0 (hself g (upA a 18 (putF 27 (a 18) x2 x3)) (x1 + 1) _ e8) bw374 bw372 bw263 bw373 hd_X8_isCompleted hself_room hP (wX_D hD) hS rfl hl.1 rfl (Nat.le_of_ble_eq_true rfl) dX8_isCompleted_68 ⟨Nat.zero_le _, Nat.zero_le _⟩) hS (fun H locs hP hS => ?_)
            refine lv_if_eq (tgt := 76) hx hb dX8_isCompleted_71 (by decide) (fun c9 => ?_) (fun c9 => ?_)
            · replace hf := (if_pos c9).symm.trans hf
              refine lv_iinc (v := (x3 + 1)) (lv' := [(3, .int (x3 + 1)), (0, .ref (E.2.1 14)), (1, .int x1), (2, .int x2)]) hx hb dX8_isCompleted_76 hl (k := 3) rfl rfl (by decide) rfl (fun ls hl => ?_)
              refine lv_goto (tgt := 21) hx hb dX8_isCompleted_79 (by decide) ?_
              exact ih u7.2 x1 x2 (x3 + 1) _ _ _ hP hS (lv_sub hl [1, 2, 3, 0] rfl) hf
            · replace hf := (if_neg c9).symm.trans hf
              refine lv_iconst (v := 1) hx hb dX8_isCompleted_74 (by decide) ?_
              exact xz_retS (fr := (fun r => r.1)) (fw := (fun r => wX E g r.2)) hx hb hr hlocks (Option.some.inj hf) nz1 hP hS dX8_isCompleted_75
  refine lv_iload_n hx hb dX8_isCompleted_0 rfl (lv_at hl 1 rfl) ?_
  refine lv_aload_n hx hb dX8_isCompleted_1 rfl (lv_at hl 0 rfl) ?_
  refine va_get (C := RX8) (T := TX8) (N := 8) hx hb hw bfX80 hown hK hP 14 (gx_14 E g a) rfl 7 (by decide) (hw _ bw328) (fun _ h9 => h9) rfl dX8_isCompleted_2 ?_
  refine lv_icmp_lt (tgt := 10) hx hb dX8_isCompleted_5 (by decide) (fun c1 => ?_) (fun c1 => ?_)
  · replace hf := (if_pos c1).symm.trans hf
    refine lv_aload_n hx hb dX8_isCompleted_10 rfl (lv_at hl 0 rfl) ?_
    refine va_get (C := RX8) (T := TX8) (N := 8) hx hb hw bfX80 hown hK hP 14 (gx_14 E g a) rfl 5 (by decide) (hw _ bw250) (fun _ h9 => h9) rfl dX8_isCompleted_11 ?_
    refine lv_iload_n hx hb dX8_isCompleted_14 rfl (lv_at hl 1 rfl) ?_
    refine xci (xRunN (rest := []) (As := [.ref (E.2.1 17), .int v1]) (k := 2) C0 (c_at l E (wX E g a) 17 v1 (gx_17 E g a) (Nat.le_of_ble_eq_true rfl)) bw9 nw21 bw13 bw12 hd_X11_at ⟨Nat.le_trans (by decide) hF, Nat.le_trans (by decide) hL⟩ hP (wX_D hD) hS rfl hl.1 rfl (Nat.le_of_ble_eq_true rfl) dX8_isCompleted_15 ⟨Nat.zero_le _, Nat.zero_le _⟩) hS (fun H locs hP hS => ?_)
    refine lv_istore_n (lv' := [(2, .int (atF 27 (a 17) v1)), (0, .ref (E.2.1 14)), (1, .int v1)]) hx hb dX8_isCompleted_18 rfl hl (by decide) rfl (fun ls hl => ?_)
    refine lv_iconst (v := 0) hx hb dX8_isCompleted_19 (by decide) ?_
    refine lv_istore_n (lv' := [(3, .int 0), (2, .int (atF 27 (a 17) v1)), (0, .ref (E.2.1 14)), (1, .int v1)]) hx hb dX8_isCompleted_20 rfl hl (by decide) rfl (fun ls hl => ?_)
    exact B21 fu a v1 (atF 27 (a 17) v1) 0 _ _ _ hP hS (lv_sub hl [2, 3, 1, 0] rfl) hf
  · replace hf := (if_neg c1).symm.trans hf
    refine lv_iconst (v := 1) hx hb dX8_isCompleted_8 (by decide) ?_
    exact xz_retS (fr := (fun r => r.1)) (fw := (fun r => wX E g r.2)) hx hb hr hlocks (Option.some.inj hf) nz1 hP hS dX8_isCompleted_9
set_option maxRecDepth 100000 in
set_option maxHeartbeats 40000000 in
theorem c_X8_isCompleted (l : Launch) (E : xE) : ∀ (n : Nat) (g : xG) (a : xA) (v1 : Int32) (res : Int32 × xA) (_ : f_X8_isCompleted n g a v1 = some res), xM l E yX8_isCompleted cX8_isCompleted 4 (some .boolean) (4 + n) (94 + 23 * n) [.ref (E.2.1 14), .int v1] (wX E g a) (xQi E res.1 (wX E g res.2)) := by
  intro n
  induction n with
  | zero => intro g a v1 res hf; exact absurd (show (none : Option (Int32 × xA)) = some res from hf) (by intro h; cases h)
  | succ n ih => intro g a v1 res hf; exact cb_X8_isCompleted l E (f_X8_isCompleted n) (4 + n) (94 + 23 * n) _ _ (fun g a v1 res h => ih g a v1 res h) ⟨by omega, by omega⟩ (by omega) (by omega) g a v1 hf
