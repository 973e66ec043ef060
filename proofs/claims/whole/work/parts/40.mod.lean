/-! X12_thrown, X12_in, X12_power, X12_on, X12_isIn, X12_count, X12_values, X12_relation, X12_isRelation, X12_tuple, X12_ofRelation, X12_takes, X12_operation, X12_madeOf, X12_lays, X12_make, X12_isOperation, X12_answers, X12_codeOf, X12_code, X12_applied -/
def t_X12_thrown (g : xG) (a : xA) : Int32 := (g 8)
set_option maxRecDepth 100000 in
set_option maxHeartbeats 40000000 in
theorem c_X12_thrown (l : Launch) (E : xE) (g : xG) (a : xA) : xM l E yX12_thrown cX12_thrown 1 (some .int) 0 0 [.ref (E.2.1 0)] (wM E g a) (xQi E (t_X12_thrown g a) (wM E g a)) := by
  obtain ⟨res, hres⟩ : ∃ z, z = t_X12_thrown g a := ⟨_, rfl⟩
  rw [← hres]
  have hf : _ = res := hres.symm
  unfold t_X12_thrown at hf
  refine xM_of (by decide) (Nat.le_of_ble_eq_true rfl) ?_
  intro p e s m below meth c A hx hb hr hml hts hown hlocks hA hD hP hK hN hS ls hl
  have hw : ∀ w ∈ BW, w.before _ s = true := fun w h => hts w (List.mem_cons_of_mem _ h)
  have C0 : xCtx E p m c cX12_thrown 1 s _ RX12 A yX12_thrown cX12_thrown 1 (some .int) := ⟨hx, hb, hml, hown, hts, hA, hK, hN⟩
  have hl : lv_has ls 1 [(0, .ref (E.2.1 0))] := hl
  refine lv_aload_n hx hb dX12_thrown_0 rfl (lv_at hl 0 rfl) ?_
  refine va_get (C := RX12) (T := TX12) (N := 22) hx hb hw bfX120 hown hK hP 0 (gm_0 E g a) rfl 21 (by decide) (hw _ bw771) (fun _ h9 => h9) rfl dX12_thrown_1 ?_
  exact xi_retS (fr := (fun r => r)) (fw := (fun r => wM E g a)) hx hb hr hlocks hf hP hS dX12_thrown_4
def t_X12_in (g : xG) (a : xA) (v0 : Int32) (v1 : Int32) (v2 : Int32) : Int32 := (if v0 < v1 then 0 else (if v2 < v0 then 0 else 1))
set_option maxRecDepth 100000 in
set_option maxHeartbeats 40000000 in
theorem c_X12_in (l : Launch) (E : xE) (g : xG) (a : xA) (v0 : Int32) (v1 : Int32) (v2 : Int32) : xM l E yX12_in cX12_in 3 (some .boolean) 0 0 [.int v0, .int v1, .int v2] (wM E g a) (xQi E (t_X12_in g a v0 v1 v2) (wM E g a)) := by
  obtain ⟨res, hres⟩ : ∃ z, z = t_X12_in g a v0 v1 v2 := ⟨_, rfl⟩
  rw [← hres]
  have hf : _ = res := hres.symm
  unfold t_X12_in at hf
  refine xM_of (by decide) (Nat.le_of_ble_eq_true rfl) ?_
  intro p e s m below meth c A hx hb hr hml hts hown hlocks hA hD hP hK hN hS ls hl
  have hw : ∀ w ∈ BW, w.before _ s = true := fun w h => hts w (List.mem_cons_of_mem _ h)
  have C0 : xCtx E p m c cX12_in 3 s _ RX12 A yX12_in cX12_in 3 (some .boolean) := ⟨hx, hb, hml, hown, hts, hA, hK, hN⟩
  have hl : lv_has ls 3 [(0, .int v0), (1, .int v1), (2, .int v2)] := hl
  refine lv_iload_n hx hb dX12_in_0 rfl (lv_at hl 0 rfl) ?_
  refine lv_iload_n hx hb dX12_in_1 rfl (lv_at hl 1 rfl) ?_
  refine lv_icmp_lt (tgt := 14) hx hb dX12_in_2 (by decide) (fun c1 => ?_) (fun c1 => ?_)
  · replace hf := (if_pos c1).symm.trans hf
    refine lv_iconst (v := 0) hx hb dX12_in_14 (by decide) ?_
    exact xz_retS (fr := (fun r => r)) (fw := (fun r => wM E g a)) hx hb hr hlocks hf nz0 hP hS dX12_in_15
  · replace hf := (if_neg c1).symm.trans hf
    refine lv_iload_n hx hb dX12_in_5 rfl (lv_at hl 0 rfl) ?_
    refine lv_iload_n hx hb dX12_in_6 rfl (lv_at hl 2 rfl) ?_
    refine lv_icmp_gt (tgt := 14) hx hb dX12_in_7 (by decide) (fun c2 => ?_) (fun c2 => ?_)
    · replace hf := (if_pos c2).symm.trans hf
      refine lv_iconst (v := 0) hx hb dX12_in_14 (by decide) ?_
      exact xz_retS (fr := (fun r => r)) (fw := (fun r => wM E g a)) hx hb hr hlocks hf nz0 hP hS dX12_in_15
    · replace hf := (if_neg c2).symm.trans hf
      refine lv_iconst (v := 1) hx hb dX12_in_10 (by decide) ?_
      refine lv_goto (tgt := 15) hx hb dX12_in_11 (by decide) ?_
      exact xz_retS (fr := (fun r => r)) (fw := (fun r => wM E g a)) hx hb hr hlocks hf nz1 hP hS dX12_in_15
def f_X12_power_4 (g : xG) (a : xA) : Nat → Int32 → Int32 → Int32 → Option (Int32)
  | 0, _, _, _ => none
  | n + 1, x1, x2, x3 => (if x1 ≤ x3 then some x2 else f_X12_power_4 g a n x1 (x2 * (g 0)) (x3 + 1))
theorem e_X12_power_4 (g : xG) (a : xA) (n : Nat) (x1 : Int32) (x2 : Int32) (x3 : Int32) : f_X12_power_4 g a (n + 1) x1 x2 x3 = (if x1 ≤ x3 then some x2 else f_X12_power_4 g a n x1 (x2 * (g 0)) (x3 + 1)) := rfl
def f_X12_power (g : xG) (a : xA) (v1 : Int32) : Option (Int32) := f_X12_power_4 g a fu v1 1 0
set_option maxRecDepth 100000 in
set_option maxHeartbeats 40000000 in
theorem c_X12_power (l : Launch) (E : xE) (g : xG) (a : xA) (v1 : Int32) {res : Int32} (hf : f_X12_power g a v1 = some res) : xM l E yX12_power cX12_power 4 (some .int) 0 0 [.ref (E.2.1 0), .int v1] (wM E g a) (xQi E res (wM E g a)) := by
  unfold f_X12_power at hf
  refine xM_of (by decide) (Nat.le_of_ble_eq_true rfl) ?_
  intro p e s m below meth c A hx hb hr hml hts hown hlocks hA hD hP hK hN hS ls hl
  have hw : ∀ w ∈ BW, w.before _ s = true := fun w h => hts w (List.mem_cons_of_mem _ h)
  have C0 : xCtx E p m c cX12_power 4 s _ RX12 A yX12_power cX12_power 4 (some .int) := ⟨hx, hb, hml, hown, hts, hA, hK, hN⟩
  have hl : lv_has ls 4 [(0, .ref (E.2.1 0)), (1, .int v1)] := hl
  have B4 : ∀ (n : Nat) (x1 : Int32) (x2 : Int32) (x3 : Int32) (H : Heap) (locs : List Loc) (ls : Array Slot), va_P E.1 vwCl (wM E g a) H → va_S A s.heap H locs → lv_has ls 4 [(0, .ref (E.2.1 0)), (1, .int x1), (2, .int x2), (3, .int x3)] → f_X12_power_4 g a n x1 x2 x3 = some res → W p l e ({ frames := 0, cells := 0, slots := 0, locals := 0 }) s m ([.ref (E.2.1 0), .int v1] : List Value).toArray below meth c H locs 0 0 (MQ below ((xQi E res (wM E g a)) A) ([.ref (E.2.1 0), .int v1] : List Value).toArray s 0 0 A) (F0 m 4 ls []) := by
    intro n
    induction n with
    | zero => intro x1 x2 x3 H locs ls hP hS hl hf; exact absurd (show (none : Option (Int32)) = some res from hf) (by intro h; cases h)
    | succ n ih =>
      intro x1 x2 x3 H locs ls hP hS hl hf
      replace hf := (e_X12_power_4 g a n x1 x2 x3).symm.trans hf
      refine lv_iload_n hx hb dX12_power_4 rfl (lv_at hl 3 rfl) ?_
      refine lv_iload_n hx hb dX12_power_5 rfl (lv_at hl 1 rfl) ?_
      refine lv_icmp_ge (tgt := 22) hx hb dX12_power_6 (by decide) (fun c1 => ?_) (fun c1 => ?_)
      · replace hf := (if_pos c1).symm.trans hf
        refine lv_iload_n hx hb dX12_power_22 rfl (lv_at hl 2 rfl) ?_
        exact xi_retS (fr := (fun r => r)) (fw := (fun r => wM E g a)) hx hb hr hlocks (Option.some.inj hf) hP hS dX12_power_23
      · replace hf := (if_neg c1).symm.trans hf
        refine lv_iload_n hx hb dX12_power_9 rfl (lv_at hl 2 rfl) ?_
        refine lv_aload_n hx hb dX12_power_10 rfl (lv_at hl 0 rfl) ?_
        refine va_get (C := RX12) (T := TX12) (N := 22) hx hb hw bfX120 hown hK hP 0 (gm_0 E g a) rfl 0 (by decide) (hw _ bw755) (fun _ h9 => h9) rfl dX12_power_11 ?_
        refine lv_imul hx hb dX12_power_14 ?_
        refine lv_istore_n (lv' := [(2, .int (x2 * (g 0))), (0, .ref (E.2.1 0)), (1, .int x1), (3, .int x3)]) hx hb dX12_power_15 rfl hl (by decide) rfl (fun ls hl => ?_)
        refine lv_iinc (v := (x3 + 1)) (lv' := [(3, .int (x3 + 1)), (2, .int (x2 * (g 0))), (0, .ref (E.2.1 0)), (1, .int x1)]) hx hb dX12_power_16 hl (k := 3) rfl rfl (by decide) rfl (fun ls hl => ?_)
        refine lv_goto (tgt := 4) hx hb dX12_power_19 (by decide) ?_
        exact ih x1 (x2 * (g 0)) (x3 + 1) _ _ _ hP hS (lv_sub hl [2, 3, 1, 0] rfl) hf
  refine lv_iconst (v := 1) hx hb dX12_power_0 (by decide) ?_
  refine lv_istore_n (lv' := [(2, .int 1), (0, .ref (E.2.1 0)), (1, .int v1)]) hx hb dX12_power_1 rfl hl (by decide) rfl (fun ls hl => ?_)
  refine lv_iconst (v := 0) hx hb dX12_power_2 (by decide) ?_
  refine lv_istore_n (lv' := [(3, .int 0), (2, .int 1), (0, .ref (E.2.1 0)), (1, .int v1)]) hx hb dX12_power_3 rfl hl (by decide) rfl (fun ls hl => ?_)
  exact B4 fu v1 1 0 _ _ _ hP hS (lv_sub hl [2, 3, 1, 0] rfl) hf
def f_X12_on (g : xG) (a : xA) (v1 : Int32) (v2 : Int32) : Option (Int32) := Option.bind (f_X12_power g a v2) (fun u1 => ck (nzB u1) (ck (nzB (g 0)) (some ((v1 / u1) - (v1 / u1) / (g 0) * (g 0)))))
set_option maxRecDepth 100000 in
set_option maxHeartbeats 40000000 in
theorem c_X12_on (l : Launch) (E : xE) (g : xG) (a : xA) (v1 : Int32) (v2 : Int32) {res : Int32} (hf : f_X12_on g a v1 v2 = some res) : xM l E yX12_on cX12_on 3 (some .int) 1 23 [.ref (E.2.1 0), .int v1, .int v2] (wM E g a) (xQi E res (wM E g a)) := by
  unfold f_X12_on at hf
  refine xM_of (by decide) (Nat.le_of_ble_eq_true rfl) ?_
  intro p e s m below meth c A hx hb hr hml hts hown hlocks hA hD hP hK hN hS ls hl
  have hw : ∀ w ∈ BW, w.before _ s = true := fun w h => hts w (List.mem_cons_of_mem _ h)
  have C0 : xCtx E p m c cX12_on 3 s _ RX12 A yX12_on cX12_on 3 (some .int) := ⟨hx, hb, hml, hown, hts, hA, hK, hN⟩
  have hl : lv_has ls 3 [(0, .ref (E.2.1 0)), (1, .int v1), (2, .int v2)] := hl
  refine lv_iload_n hx hb dX12_on_0 rfl (lv_at hl 1 rfl) ?_
  refine lv_aload_n hx hb dX12_on_1 rfl (lv_at hl 0 rfl) ?_
  refine lv_iload_n hx hb dX12_on_2 rfl (lv_at hl 2 rfl) ?_
  obtain ⟨u1, e2, hf⟩ := bd_some hf
  refine xci (xRunV (rest := [.int v1]) (As := [.int v2]) (C := RX12) (k := 1) C0 (c_X12_power l E g a v2 e2) bw773 bw775 bw778 bw776 bw777 hd_X12_power ⟨Nat.le_of_ble_eq_true rfl, Nat.le_of_ble_eq_true rfl⟩ hP (wM_D hD) hS (va_recv hK hP (ci := 12) rfl (gm_0 E g a)) rfl hl.1 rfl (Nat.le_of_ble_eq_true rfl) dX12_on_3 ⟨Nat.zero_le _, Nat.zero_le _⟩) hS (fun H locs hP hS => ?_)
  obtain ⟨k3, hf⟩ := ck_some hf
  refine lv_idiv hx hb dX12_on_6 (nzB_nz k3) ?_
  refine lv_aload_n hx hb dX12_on_7 rfl (lv_at hl 0 rfl) ?_
  refine va_get (C := RX12) (T := TX12) (N := 22) hx hb hw bfX120 hown hK hP 0 (gm_0 E g a) rfl 0 (by decide) (hw _ bw755) (fun _ h9 => h9) rfl dX12_on_8 ?_
  obtain ⟨k4, hf⟩ := ck_some hf
  refine lv_irem hx hb dX12_on_11 (nzB_nz k4) ?_
  exact xi_retS (fr := (fun r => r)) (fw := (fun r => wM E g a)) hx hb hr hlocks (Option.some.inj hf) hP hS dX12_on_12
def t_X12_isIn (g : xG) (a : xA) (v0 : Int32) (v1 : Int32) : Int32 := (if (((v0 : Int32) >>> (v1 &&& 31)) &&& 1) = 1 then 1 else 0)
set_option maxRecDepth 100000 in
set_option maxHeartbeats 40000000 in
theorem c_X12_isIn (l : Launch) (E : xE) (g : xG) (a : xA) (v0 : Int32) (v1 : Int32) : xM l E yX12_isIn cX12_isIn 2 (some .boolean) 0 0 [.int v0, .int v1] (wM E g a) (xQi E (t_X12_isIn g a v0 v1) (wM E g a)) := by
  obtain ⟨res, hres⟩ : ∃ z, z = t_X12_isIn g a v0 v1 := ⟨_, rfl⟩
  rw [← hres]
  have hf : _ = res := hres.symm
  unfold t_X12_isIn at hf
  refine xM_of (by decide) (Nat.le_of_ble_eq_true rfl) ?_
  intro p e s m below meth c A hx hb hr hml hts hown hlocks hA hD hP hK hN hS ls hl
  have hw : ∀ w ∈ BW, w.before _ s = true := fun w h => hts w (List.mem_cons_of_mem _ h)
  have C0 : xCtx E p m c cX12_isIn 2 s _ RX12 A yX12_isIn cX12_isIn 2 (some .boolean) := ⟨hx, hb, hml, hown, hts, hA, hK, hN⟩
  have hl : lv_has ls 2 [(0, .int v0), (1, .int v1)] := hl
  refine lv_iload_n hx hb dX12_isIn_0 rfl (lv_at hl 0 rfl) ?_
  refine lv_iload_n hx hb dX12_isIn_1 rfl (lv_at hl 1 rfl) ?_
  refine lv_ishr hx hb dX12_isIn_2 ?_
  refine lv_iconst (v := 1) hx hb dX12_isIn_3 (by decide) ?_
  refine lv_iand hx hb dX12_isIn_4 ?_
  refine lv_iconst (v := 1) hx hb dX12_isIn_5 (by decide) ?_
  refine lv_icmp_ne (tgt := 13) hx hb dX12_isIn_6 (by decide) (fun c1 => ?_) (fun c1 => ?_)
  · replace hf := (if_neg c1).symm.trans hf
    refine lv_iconst (v := 0) hx hb dX12_isIn_13 (by decide) ?_
    exact xz_retS (fr := (fun r => r)) (fw := (fun r => wM E g a)) hx hb hr hlocks hf nz0 hP hS dX12_isIn_14
  · replace hf := (if_pos c1).symm.trans hf
    refine lv_iconst (v := 1) hx hb dX12_isIn_9 (by decide) ?_
    refine lv_goto (tgt := 14) hx hb dX12_isIn_10 (by decide) ?_
    exact xz_retS (fr := (fun r => r)) (fw := (fun r => wM E g a)) hx hb hr hlocks hf nz1 hP hS dX12_isIn_14
def f_X12_count_4 (g : xG) (a : xA) : Nat → Int32 → Int32 → Int32 → Option (Int32)
  | 0, _, _, _ => none
  | n + 1, x0, x1, x2 => (if 31 ≤ x2 then some x1 else f_X12_count_4 g a n x0 (x1 + (((x0 : Int32) >>> (x2 &&& 31)) &&& 1)) (x2 + 1))
theorem e_X12_count_4 (g : xG) (a : xA) (n : Nat) (x0 : Int32) (x1 : Int32) (x2 : Int32) : f_X12_count_4 g a (n + 1) x0 x1 x2 = (if 31 ≤ x2 then some x1 else f_X12_count_4 g a n x0 (x1 + (((x0 : Int32) >>> (x2 &&& 31)) &&& 1)) (x2 + 1)) := rfl
def f_X12_count (g : xG) (a : xA) (v0 : Int32) : Option (Int32) := f_X12_count_4 g a fu v0 0 0
set_option maxRecDepth 100000 in
set_option maxHeartbeats 40000000 in
theorem c_X12_count (l : Launch) (E : xE) (g : xG) (a : xA) (v0 : Int32) {res : Int32} (hf : f_X12_count g a v0 = some res) : xM l E yX12_count cX12_count 3 (some .int) 0 0 [.int v0] (wM E g a) (xQi E res (wM E g a)) := by
  unfold f_X12_count at hf
  refine xM_of (by decide) (Nat.le_of_ble_eq_true rfl) ?_
  intro p e s m below meth c A hx hb hr hml hts hown hlocks hA hD hP hK hN hS ls hl
  have hw : ∀ w ∈ BW, w.before _ s = true := fun w h => hts w (List.mem_cons_of_mem _ h)
  have C0 : xCtx E p m c cX12_count 3 s _ RX12 A yX12_count cX12_count 3 (some .int) := ⟨hx, hb, hml, hown, hts, hA, hK, hN⟩
  have hl : lv_has ls 3 [(0, .int v0)] := hl
  have B4 : ∀ (n : Nat) (x0 : Int32) (x1 : Int32) (x2 : Int32) (H : Heap) (locs : List Loc) (ls : Array Slot), va_P E.1 vwCl (wM E g a) H → va_S A s.heap H locs → lv_has ls 3 [(0, .int x0), (1, .int x1), (2, .int x2)] → f_X12_count_4 g a n x0 x1 x2 = some res → W p l e ({ frames := 0, cells := 0, slots := 0, locals := 0 }) s m ([.int v0] : List Value).toArray below meth c H locs 0 0 (MQ below ((xQi E res (wM E g a)) A) ([.int v0] : List Value).toArray s 0 0 A) (F0 m 4 ls []) := by
    intro n
    induction n with
    | zero => intro x0 x1 x2 H locs ls hP hS hl hf; exact absurd (show (none : Option (Int32)) = some res from hf) (by intro h; cases h)
    | succ n ih =>
      intro x0 x1 x2 H locs ls hP hS hl hf
      replace hf := (e_X12_count_4 g a n x0 x1 x2).symm.trans hf
      refine lv_iload_n hx hb dX12_count_4 rfl (lv_at hl 2 rfl) ?_
      refine lv_bipush (v := 31) hx hb dX12_count_5 (by decide) ?_
      refine lv_icmp_ge (tgt := 24) hx hb dX12_count_7 (by decide) (fun c1 => ?_) (fun c1 => ?_)
      · replace hf := (if_pos c1).symm.trans hf
        refine lv_iload_n hx hb dX12_count_24 rfl (lv_at hl 1 rfl) ?_
        exact xi_retS (fr := (fun r => r)) (fw := (fun r => wM E g a)) hx hb hr hlocks (Option.some.inj hf) hP hS dX12_count_25
      · replace hf := (if_neg c1).symm.trans hf
        refine lv_iload_n hx hb dX12_count_10 rfl (lv_at hl 1 rfl) ?_
        refine lv_iload_n hx hb dX12_count_11 rfl (lv_at hl 0 rfl) ?_
        refine lv_iload_n hx hb dX12_count_12 rfl (lv_at hl 2 rfl) ?_
        refine lv_ishr hx hb dX12_count_13 ?_
        refine lv_iconst (v := 1) hx hb dX12_count_14 (by decide) ?_
        refine lv_iand hx hb dX12_count_15 ?_
        refine lv_iadd hx hb dX12_count_16 ?_
        refine lv_istore_n (lv' := [(1, .int (x1 + (((x0 : Int32) >>> (x2 &&& 31)) &&& 1))), (0, .int x0), (2, .int x2)]) hx hb dX12_count_17 rfl hl (by decide) rfl (fun ls hl => ?_)
        refine lv_iinc (v := (x2 + 1)) (lv' := [(2, .int (x2 + 1)), (1, .int (x1 + (((x0 : Int32) >>> (x2 &&& 31)) &&& 1))), (0, .int x0)]) hx hb dX12_count_18 hl (k := 2) rfl rfl (by decide) rfl (fun ls hl => ?_)
        refine lv_goto (tgt := 4) hx hb dX12_count_21 (by decide) ?_
        exact ih x0 (x1 + (((x0 : Int32) >>> (x2 &&& 31)) &&& 1)) (x2 + 1) _ _ _ hP hS (lv_sub hl [2, 1, 0] rfl) hf
  refine lv_iconst (v := 0) hx hb dX12_count_0 (by decide) ?_
  refine lv_istore_n (lv' := [(1, .int 0), (0, .int v0)]) hx hb dX12_count_1 rfl hl (by decide) rfl (fun ls hl => ?_)
  refine lv_iconst (v := 0) hx hb dX12_count_2 (by decide) ?_
  refine lv_istore_n (lv' := [(2, .int 0), (1, .int 0), (0, .int v0)]) hx hb dX12_count_3 rfl hl (by decide) rfl (fun ls hl => ?_)
  exact B4 fu v0 0 0 _ _ _ hP hS (lv_sub hl [2, 1, 0] rfl) hf
def t_X12_values (g : xG) (a : xA) (v1 : Int32) : Int32 × xG := (if (t_X12_in g a v1 2 3) = 0 then (if ((upd g 8 1) 8) ≤ 0 then (((upd g 8 1) 0), (upd (upd (upd (upd (upd (upd g 8 1) 0 v1) 1 0) 2 0) 6 1) 7 0)) else (0, (upd g 8 1))) else (if ((upd g 8 0) 8) ≤ 0 then (((upd g 8 0) 0), (upd (upd (upd (upd (upd (upd g 8 0) 0 v1) 1 0) 2 0) 6 1) 7 0)) else (0, (upd g 8 0))))
set_option maxRecDepth 100000 in
set_option maxHeartbeats 40000000 in
theorem c_X12_values (l : Launch) (E : xE) (g : xG) (a : xA) (v1 : Int32) : xM l E yX12_values cX12_values 3 (some .int) 1 22 [.ref (E.2.1 0), .int v1] (wM E g a) (xQi E (t_X12_values g a v1).1 (wM E (t_X12_values g a v1).2 a)) := by
  obtain ⟨res, hres⟩ : ∃ z, z = t_X12_values g a v1 := ⟨_, rfl⟩
  rw [← hres]
  have hf : _ = res := hres.symm
  unfold t_X12_values at hf
  refine xM_of (by decide) (Nat.le_of_ble_eq_true rfl) ?_
  intro p e s m below meth c A hx hb hr hml hts hown hlocks hA hD hP hK hN hS ls hl
  have hw : ∀ w ∈ BW, w.before _ s = true := fun w h => hts w (List.mem_cons_of_mem _ h)
  have C0 : xCtx E p m c cX12_values 3 s _ RX12 A yX12_values cX12_values 3 (some .int) := ⟨hx, hb, hml, hown, hts, hA, hK, hN⟩
  have hl : lv_has ls 3 [(0, .ref (E.2.1 0)), (1, .int v1)] := hl
  refine lv_aload_n hx hb dX12_values_0 rfl (lv_at hl 0 rfl) ?_
  refine lv_iload_n hx hb dX12_values_1 rfl (lv_at hl 1 rfl) ?_
  refine lv_iconst (v := 2) hx hb dX12_values_2 (by decide) ?_
  refine lv_iconst (v := 3) hx hb dX12_values_3 (by decide) ?_
  refine xci (xRunS (rest := [.ref (E.2.1 0)]) (As := [.int v1, .int 2, .int 3]) (k := 3) C0 (c_X12_in l E g a v1 2 3) bw772 bw785 bw778 bw786 hd_X12_in ⟨Nat.le_of_ble_eq_true rfl, Nat.le_of_ble_eq_true rfl⟩ hP (wM_D hD) hS rfl hl.1 rfl (Nat.le_of_ble_eq_true rfl) dX12_values_4 ⟨Nat.zero_le _, Nat.zero_le _⟩) hS (fun H locs hP hS => ?_)
  refine lv_if_eq (tgt := 14) hx hb dX12_values_7 (by decide) (fun c1 => ?_) (fun c1 => ?_)
  · replace hf := (if_pos c1).symm.trans hf
    refine lv_iconst (v := 1) hx hb dX12_values_14 (by decide) ?_
    refine va_put (v := .int 1) (ty := .int) (C := RX12) (T := TX12) (N := 22) hx hb hw bfX120 tyX12 tyX12_ok nmX12 hown hK hP (wM_D hD) hS 0 (gm_0 E g a) rfl 21 (by decide) (hw _ bw771) (fun _ h9 => h9) rfl (by decide +kernel) rfl rfl (Nat.le_of_ble_eq_true rfl) dX12_values_15 (fun H locs hP _ hS => ?_)
    have hP := xP_eq (sm_g8 E g a 1) hP
    refine lv_aload_n hx hb dX12_values_18 rfl (lv_at hl 0 rfl) ?_
    refine va_get (C := RX12) (T := TX12) (N := 22) hx hb hw bfX120 hown hK hP 0 (gm_0 E (upd g 8 1) a) rfl 21 (by decide) (hw _ bw771) (fun _ h9 => h9) rfl dX12_values_19 ?_
    refine lv_if_le (tgt := 27) hx hb dX12_values_22 (by decide) (fun c2 => ?_) (fun c2 => ?_)
    · replace hf := (if_pos c2).symm.trans hf
      refine lv_aload_n hx hb dX12_values_27 rfl (lv_at hl 0 rfl) ?_
      refine va_get (C := RX12) (T := TX12) (N := 22) hx hb hw bfX120 hown hK hP 0 (gm_0 E (upd g 8 1) a) rfl 0 (by decide) (hw _ bw755) (fun _ h9 => h9) rfl dX12_values_28 ?_
      refine lv_istore_n (lv' := [(2, .int ((upd g 8 1) 0)), (0, .ref (E.2.1 0)), (1, .int v1)]) hx hb dX12_values_31 rfl hl (by decide) rfl (fun ls hl => ?_)
      refine lv_aload_n hx hb dX12_values_32 rfl (lv_at hl 1 rfl) ?_
      refine lv_iload_n hx hb dX12_values_33 rfl (lv_at hl 2 rfl) ?_
      refine va_put (v := .int v1) (ty := .int) (C := RX12) (T := TX12) (N := 22) hx hb hw bfX120 tyX12 tyX12_ok nmX12 hown hK hP (wM_D hD) hS 0 (gm_0 E (upd g 8 1) a) rfl 0 (by decide) (hw _ bw755) (fun _ h9 => h9) rfl (by decide +kernel) rfl rfl (Nat.le_of_ble_eq_true rfl) dX12_values_34 (fun H locs hP _ hS => ?_)
      have hP := xP_eq (sm_g0 E (upd g 8 1) a v1) hP
      refine lv_aload_n hx hb dX12_values_37 rfl (lv_at hl 1 rfl) ?_
      refine lv_iconst (v := 0) hx hb dX12_values_38 (by decide) ?_
      refine va_put (v := .int 0) (ty := .int) (C := RX12) (T := TX12) (N := 22) hx hb hw bfX120 tyX12 tyX12_ok nmX12 hown hK hP (wM_D hD) hS 0 (gm_0 E (upd (upd g 8 1) 0 v1) a) rfl 1 (by decide) (hw _ bw782) (fun _ h9 => h9) rfl (by decide +kernel) rfl rfl (Nat.le_of_ble_eq_true rfl) dX12_values_39 (fun H locs hP _ hS => ?_)
      have hP := xP_eq (sm_g1 E (upd (upd g 8 1) 0 v1) a 0) hP
      refine lv_aload_n hx hb dX12_values_42 rfl (lv_at hl 1 rfl) ?_
      refine lv_iconst (v := 0) hx hb dX12_values_43 (by decide) ?_
      refine va_put (v := .int 0) (ty := .int) (C := RX12) (T := TX12) (N := 22) hx hb hw bfX120 tyX12 tyX12_ok nmX12 hown hK hP (wM_D hD) hS 0 (gm_0 E (upd (upd (upd g 8 1) 0 v1) 1 0) a) rfl 4 (by decide) (hw _ bw783) (fun _ h9 => h9) rfl (by decide +kernel) rfl rfl (Nat.le_of_ble_eq_true rfl) dX12_values_44 (fun H locs hP _ hS => ?_)
      have hP := xP_eq (sm_g2 E (upd (upd (upd g 8 1) 0 v1) 1 0) a 0) hP
      refine lv_aload_n hx hb dX12_values_47 rfl (lv_at hl 1 rfl) ?_
      refine lv_iconst (v := 1) hx hb dX12_values_48 (by decide) ?_
      refine va_put (v := .int 1) (ty := .int) (C := RX12) (T := TX12) (N := 22) hx hb hw bfX120 tyX12 tyX12_ok nmX12 hown hK hP (wM_D hD) hS 0 (gm_0 E (upd (upd (upd (upd g 8 1) 0 v1) 1 0) 2 0) a) rfl 14 (by decide) (hw _ bw764) (fun _ h9 => h9) rfl (by decide +kernel) rfl rfl (Nat.le_of_ble_eq_true rfl) dX12_values_49 (fun H locs hP _ hS => ?_)
      have hP := xP_eq (sm_g6 E (upd (upd (upd (upd g 8 1) 0 v1) 1 0) 2 0) a 1) hP
      refine lv_aload_n hx hb dX12_values_52 rfl (lv_at hl 1 rfl) ?_
      refine lv_iconst (v := 0) hx hb dX12_values_53 (by decide) ?_
      refine va_put (v := .int 0) (ty := .int) (C := RX12) (T := TX12) (N := 22) hx hb hw bfX120 tyX12 tyX12_ok nmX12 hown hK hP (wM_D hD) hS 0 (gm_0 E (upd (upd (upd (upd (upd g 8 1) 0 v1) 1 0) 2 0) 6 1) a) rfl 15 (by decide) (hw _ bw784) (fun _ h9 => h9) rfl (by decide +kernel) rfl rfl (Nat.le_of_ble_eq_true rfl) dX12_values_54 (fun H locs hP _ hS => ?_)
      have hP := xP_eq (sm_g7 E (upd (upd (upd (upd (upd g 8 1) 0 v1) 1 0) 2 0) 6 1) a 0) hP
      refine lv_iload_n hx hb dX12_values_57 rfl (lv_at hl 0 rfl) ?_
      exact xi_retS (fr := (fun r => r.1)) (fw := (fun r => wM E r.2 a)) hx hb hr hlocks hf hP hS dX12_values_58
    · replace hf := (if_neg c2).symm.trans hf
      refine lv_iconst (v := 0) hx hb dX12_values_25 (by decide) ?_
      exact xi_retS (fr := (fun r => r.1)) (fw := (fun r => wM E r.2 a)) hx hb hr hlocks hf hP hS dX12_values_26
  · replace hf := (if_neg c1).symm.trans hf
    refine lv_iconst (v := 0) hx hb dX12_values_10 (by decide) ?_
    refine lv_goto (tgt := 15) hx hb dX12_values_11 (by decide) ?_
    refine va_put (v := .int 0) (ty := .int) (C := RX12) (T := TX12) (N := 22) hx hb hw bfX120 tyX12 tyX12_ok nmX12 hown hK hP (wM_D hD) hS 0 (gm_0 E g a) rfl 21 (by decide) (hw _ bw771) (fun _ h9 => h9) rfl (by decide +kernel) rfl rfl (Nat.le_of_ble_eq_true rfl) dX12_values_15 (fun H locs hP _ hS => ?_)
    have hP := xP_eq (sm_g8 E g a 0) hP
    refine lv_aload_n hx hb dX12_values_18 rfl (lv_at hl 0 rfl) ?_
    refine va_get (C := RX12) (T := TX12) (N := 22) hx hb hw bfX120 hown hK hP 0 (gm_0 E (upd g 8 0) a) rfl 21 (by decide) (hw _ bw771) (fun _ h9 => h9) rfl dX12_values_19 ?_
    refine lv_if_le (tgt := 27) hx hb dX12_values_22 (by decide) (fun c3 => ?_) (fun c3 => ?_)
    · replace hf := (if_pos c3).symm.trans hf
      refine lv_aload_n hx hb dX12_values_27 rfl (lv_at hl 0 rfl) ?_
      refine va_get (C := RX12) (T := TX12) (N := 22) hx hb hw bfX120 hown hK hP 0 (gm_0 E (upd g 8 0) a) rfl 0 (by decide) (hw _ bw755) (fun _ h9 => h9) rfl dX12_values_28 ?_
      refine lv_istore_n (lv' := [(2, .int ((upd g 8 0) 0)), (0, .ref (E.2.1 0)), (1, .int v1)]) hx hb dX12_values_31 rfl hl (by decide) rfl (fun ls hl => ?_)
      refine lv_aload_n hx hb dX12_values_32 rfl (lv_at hl 1 rfl) ?_
      refine lv_iload_n hx hb dX12_values_33 rfl (lv_at hl 2 rfl) ?_
      refine va_put (v := .int v1) (ty := .int) (C := RX12) (T := TX12) (N := 22) hx hb hw bfX120 tyX12 tyX12_ok nmX12 hown hK hP (wM_D hD) hS 0 (gm_0 E (upd g 8 0) a) rfl 0 (by decide) (hw _ bw755) (fun _ h9 => h9) rfl (by decide +kernel) rfl rfl (Nat.le_of_ble_eq_true rfl) dX12_values_34 (fun H locs hP _ hS => ?_)
      have hP := xP_eq (sm_g0 E (upd g 8 0) a v1) hP
      refine lv_aload_n hx hb dX12_values_37 rfl (lv_at hl 1 rfl) ?_
      refine lv_iconst (v := 0) hx hb dX12_values_38 (by decide) ?_
      refine va_put (v := .int 0) (ty := .int) (C := RX12) (T := TX12) (N := 22) hx hb hw bfX120 tyX12 tyX12_ok nmX12 hown hK hP (wM_D hD) hS 0 (gm_0 E (upd (upd g 8 0) 0 v1) a) rfl 1 (by decide) (hw _ bw782) (fun _ h9 => h9) rfl (by decide +kernel) rfl rfl (Nat.le_of_ble_eq_true rfl) dX12_values_39 (fun H locs hP _ hS => ?_)
      have hP := xP_eq (sm_g1 E (upd (upd g 8 0) 0 v1) a 0) hP
      refine lv_aload_n hx hb dX12_values_42 rfl (lv_at hl 1 rfl) ?_
      refine lv_iconst (v := 0) hx hb dX12_values_43 (by decide) ?_
      refine va_put (v := .int 0) (ty := .int) (C := RX12) (T := TX12) (N := 22) hx hb hw bfX120 tyX12 tyX12_ok nmX12 hown hK hP (wM_D hD) hS 0 (gm_0 E (upd (upd (upd g 8 0) 0 v1) 1 0) a) rfl 4 (by decide) (hw _ bw783) (fun _ h9 => h9) rfl (by decide +kernel) rfl rfl (Nat.le_of_ble_eq_true rfl) dX12_values_44 (fun H locs hP _ hS => ?_)
      have hP := xP_eq (sm_g2 E (upd (upd (upd g 8 0) 0 v1) 1 0) a 0) hP
      refine lv_aload_n hx hb dX12_values_47 rfl (lv_at hl 1 rfl) ?_
      refine lv_iconst (v := 1) hx hb dX12_values_48 (by decide) ?_
      refine va_put (v := .int 1) (ty := .int) (C := RX12) (T := TX12) (N := 22) hx hb hw bfX120 tyX12 tyX12_ok nmX12 hown hK hP (wM_D hD) hS 0 (gm_0 E (upd (upd (upd (upd g 8 0) 0 v1) 1 0) 2 0) a) rfl 14 (by decide) (hw _ bw764) (fun _ h9 => h9) rfl (by decide +kernel) rfl rfl (Nat.le_of_ble_eq_true rfl) dX12_values_49 (fun H locs hP _ hS => ?_)
      have hP := xP_eq (sm_g6 E (upd (upd (upd (upd g 8 0) 0 v1) 1 0) 2 0) a 1) hP
      refine lv_aload_n hx hb dX12_values_52 rfl (lv_at hl 1 rfl) ?_
      refine lv_iconst (v := 0) hx hb dX12_values_53 (by decide) ?_
      refine va_put (v := .int 0) (ty := .int) (C := RX12) (T := TX12) (N := 22) hx hb hw bfX120 tyX12 tyX12_ok nmX12 hown hK hP (wM_D hD) hS 0 (gm_0 E (upd (upd (upd (upd (upd g 8 0) 0 v1) 1 0) 2 0) 6 1) a) rfl 15 (by decide) (hw _ bw784) (fun _ h9 => h9) rfl (by decide +kernel) rfl rfl (Nat.le_of_ble_eq_true rfl) dX12_values_54 (fun H locs hP _ hS => ?_)
      have hP := xP_eq (sm_g7 E (upd (upd (upd (upd (upd g 8 0) 0 v1) 1 0) 2 0) 6 1) a 0) hP
      refine lv_iload_n hx hb dX12_values_57 rfl (lv_at hl 0 rfl) ?_
      exact xi_retS (fr := (fun r => r.1)) (fw := (fun r => wM E r.2 a)) hx hb hr hlocks hf hP hS dX12_values_58
    · replace hf := (if_neg c3).symm.trans hf
      refine lv_iconst (v := 0) hx hb dX12_values_25 (by decide) ?_
      exact xi_retS (fr := (fun r => r.1)) (fw := (fun r => wM E r.2 a)) hx hb hr hlocks hf hP hS dX12_values_26
def f_X12_relation_40 (g : xG) (a : xA) (x1 : Int32) (s0 : Int32) : Option (Int32 × xG × xA) := (if ((upd g 8 s0) 8) ≤ 0 then ck (inB ((upd g 8 s0) 1) 8) (ck (inB ((upd g 8 s0) 1) 8) (some ((((upd (upd g 8 s0) 1 (((upd g 8 s0) 1) + 1)) 1) - 1), (upd (upd g 8 s0) 1 (((upd g 8 s0) 1) + 1)), (upA (upA a 1 (upd (a 1) (((upd g 8 s0) 1) : Int32).toNatClampNeg x1)) 2 (upd ((upA a 1 (upd (a 1) (((upd g 8 s0) 1) : Int32).toNatClampNeg x1)) 2) (((upd g 8 s0) 1) : Int32).toNatClampNeg 0))))) else some (0, (upd g 8 s0), a))
def f_X12_relation_16 (g : xG) (a : xA) (x1 : Int32) (s0 : Int32) (s1 : Int32) (s2 : Int32) : Option (Int32 × xG × xA) := (if (t_X12_in g a s2 s1 s0) = 0 then f_X12_relation_40 g a x1 1 else (if (g 1) = 8 then f_X12_relation_40 g a x1 2 else f_X12_relation_40 g a x1 0))
def f_X12_relation (g : xG) (a : xA) (v1 : Int32) : Option (Int32 × xG × xA) := (if (g 0) = 2 then f_X12_relation_16 g a v1 3 1 v1 else f_X12_relation_16 g a v1 2 1 v1)
set_option maxRecDepth 100000 in
set_option maxHeartbeats 40000000 in
theorem c_X12_relation (l : Launch) (E : xE) (g : xG) (a : xA) (v1 : Int32) {res : Int32 × xG × xA} (hf : f_X12_relation g a v1 = some res) : xM l E yX12_relation cX12_relation 2 (some .int) 1 22 [.ref (E.2.1 0), .int v1] (wM E g a) (xQi E res.1 (wM E res.2.1 res.2.2)) := by
  unfold f_X12_relation at hf
  refine xM_of (by decide) (Nat.le_of_ble_eq_true rfl) ?_
  intro p e s m below meth c A hx hb hr hml hts hown hlocks hA hD hP hK hN hS ls hl
  have hw : ∀ w ∈ BW, w.before _ s = true := fun w h => hts w (List.mem_cons_of_mem _ h)
  have C0 : xCtx E p m c cX12_relation 2 s _ RX12 A yX12_relation cX12_relation 2 (some .int) := ⟨hx, hb, hml, hown, hts, hA, hK, hN⟩
  have hl : lv_has ls 2 [(0, .ref (E.2.1 0)), (1, .int v1)] := hl
  have B40 : ∀ (g : xG) (a : xA) (x1 : Int32) (s0 : Int32) (H : Heap) (locs : List Loc) (ls : Array Slot), va_P E.1 vwCl (wM E g a) H → va_S A s.heap H locs → lv_has ls 2 [(0, .ref (E.2.1 0)), (1, .int x1)] → f_X12_relation_40 g a x1 s0 = some res → W p l e ({ frames := 1, cells := 0, slots := 0, locals := 22 }) s m ([.ref (E.2.1 0), .int v1] : List Value).toArray below meth c H locs 0 0 (MQ below ((xQi E res.1 (wM E res.2.1 res.2.2)) A) ([.ref (E.2.1 0), .int v1] : List Value).toArray s 0 0 A) (F0 m 40 ls [.int s0, .ref (E.2.1 0)]) := by
    intro g a x1 s0 H locs ls hP hS hl hf
    unfold f_X12_relation_40 at hf
    refine va_put (v := .int s0) (ty := .int) (C := RX12) (T := TX12) (N := 22) hx hb hw bfX120 tyX12 tyX12_ok nmX12 hown hK hP (wM_D hD) hS 0 (gm_0 E g a) rfl 21 (by decide) (hw _ bw771) (fun _ h9 => h9) rfl (by decide +kernel) rfl rfl (Nat.le_of_ble_eq_true rfl) dX12_relation_40 (fun H locs hP _ hS => ?_)
    have hP := xP_eq (sm_g8 E g a s0) hP
    refine lv_aload_n hx hb dX12_relation_43 rfl (lv_at hl 0 rfl) ?_
    refine va_get (C := RX12) (T := TX12) (N := 22) hx hb hw bfX120 hown hK hP 0 (gm_0 E (upd g 8 s0) a) rfl 21 (by decide) (hw _ bw771) (fun _ h9 => h9) rfl dX12_relation_44 ?_
    refine lv_if_le (tgt := 52) hx hb dX12_relation_47 (by decide) (fun c4 => ?_) (fun c4 => ?_)
    · replace hf := (if_pos c4).symm.trans hf
      refine lv_aload_n hx hb dX12_relation_52 rfl (lv_at hl 0 rfl) ?_
      refine va_get (C := RX12) (T := TX12) (N := 22) hx hb hw bfX120 hown hK hP 0 (gm_0 E (upd g 8 s0) a) rfl 2 (by decide) (hw _ bw756) (fun _ h9 => h9) rfl dX12_relation_53 ?_
      refine lv_aload_n hx hb dX12_relation_56 rfl (lv_at hl 0 rfl) ?_
      refine va_get (C := RX12) (T := TX12) (N := 22) hx hb hw bfX120 hown hK hP 0 (gm_0 E (upd g 8 s0) a) rfl 1 (by decide) (hw _ bw782) (fun _ h9 => h9) rfl dX12_relation_57 ?_
      refine lv_iload_n hx hb dX12_relation_60 rfl (lv_at hl 1 rfl) ?_
      obtain ⟨k5, hf⟩ := ck_some hf
      refine va_iast hx hb hK hP (wM_D hD) hS 1 0 (gm_1 E (upd g 8 s0) a) rfl (inB_in k5) dX12_relation_61 (fun H locs hP _ hS => ?_)
      have hP := xP_eq (sm_a1 E (upd g 8 s0) a (upd (a 1) (((upd g 8 s0) 1) : Int32).toNatClampNeg x1)) hP
      refine lv_aload_n hx hb dX12_relation_62 rfl (lv_at hl 0 rfl) ?_
      refine va_get (C := RX12) (T := TX12) (N := 22) hx hb hw bfX120 hown hK hP 0 (gm_0 E (upd g 8 s0) (upA a 1 (upd (a 1) (((upd g 8 s0) 1) : Int32).toNatClampNeg x1))) rfl 3 (by decide) (hw _ bw757) (fun _ h9 => h9) rfl dX12_relation_63 ?_
      refine lv_aload_n hx hb dX12_relation_66 rfl (lv_at hl 0 rfl) ?_
      refine va_get (C := RX12) (T := TX12) (N := 22) hx hb hw bfX120 hown hK hP 0 (gm_0 E (upd g 8 s0) (upA a 1 (upd (a 1) (((upd g 8 s0) 1) : Int32).toNatClampNeg x1))) rfl 1 (by decide) (hw _ bw782) (fun _ h9 => h9) rfl dX12_relation_67 ?_
      refine lv_iconst (v := 0) hx hb dX12_relation_70 (by decide) ?_
      obtain ⟨k6, hf⟩ := ck_some hf
      refine va_iast hx hb hK hP (wM_D hD) hS 2 0 (gm_2 E (upd g 8 s0) (upA a 1 (upd (a 1) (((upd g 8 s0) 1) : Int32).toNatClampNeg x1))) rfl (inB_in k6) dX12_relation_71 (fun H locs hP _ hS => ?_)
      have hP := xP_eq (sm_a2 E (upd g 8 s0) (upA a 1 (upd (a 1) (((upd g 8 s0) 1) : Int32).toNatClampNeg x1)) (upd ((upA a 1 (upd (a 1) (((upd g 8 s0) 1) : Int32).toNatClampNeg x1)) 2) (((upd g 8 s0) 1) : Int32).toNatClampNeg 0)) hP
      refine lv_aload_n hx hb dX12_relation_72 rfl (lv_at hl 0 rfl) ?_
      refine lv_dup hx hb dX12_relation_73 rfl ?_
      refine va_get (C := RX12) (T := TX12) (N := 22) hx hb hw bfX120 hown hK hP 0 (gm_0 E (upd g 8 s0) (upA (upA a 1 (upd (a 1) (((upd g 8 s0) 1) : Int32).toNatClampNeg x1)) 2 (upd ((upA a 1 (upd (a 1) (((upd g 8 s0) 1) : Int32).toNatClampNeg x1)) 2) (((upd g 8 s0) 1) : Int32).toNatClampNeg 0))) rfl 1 (by decide) (hw _ bw782) (fun _ h9 => h9) rfl dX12_relation_74 ?_
      refine lv_iconst (v := 1) hx hb dX12_relation_77 (by decide) ?_
      refine lv_iadd hx hb dX12_relation_78 ?_
      refine va_put (v := .int (((upd g 8 s0) 1) + 1)) (ty := .int) (C := RX12) (T := TX12) (N := 22) hx hb hw bfX120 tyX12 tyX12_ok nmX12 hown hK hP (wM_D hD) hS 0 (gm_0 E (upd g 8 s0) (upA (upA a 1 (upd (a 1) (((upd g 8 s0) 1) : Int32).toNatClampNeg x1)) 2 (upd ((upA a 1 (upd (a 1) (((upd g 8 s0) 1) : Int32).toNatClampNeg x1)) 2) (((upd g 8 s0) 1) : Int32).toNatClampNeg 0))) rfl 1 (by decide) (hw _ bw782) (fun _ h9 => h9) rfl (by decide +kernel) rfl rfl (Nat.le_of_ble_eq_true rfl) dX12_relation_79 (fun H locs hP _ hS => ?_)
      have hP := xP_eq (sm_g1 E (upd g 8 s0) (upA (upA a 1 (upd (a 1) (((upd g 8 s0) 1) : Int32).toNatClampNeg x1)) 2 (upd ((upA a 1 (upd (a 1) (((upd g 8 s0) 1) : Int32).toNatClampNeg x1)) 2) (((upd g 8 s0) 1) : Int32).toNatClampNeg 0)) (((upd g 8 s0) 1) + 1)) hP
      refine lv_aload_n hx hb dX12_relation_82 rfl (lv_at hl 0 rfl) ?_
      refine va_get (C := RX12) (T := TX12) (N := 22) hx hb hw bfX120 hown hK hP 0 (gm_0 E (upd (upd g 8 s0) 1 (((upd g 8 s0) 1) + 1)) (upA (upA a 1 (upd (a 1) (((upd g 8 s0) 1) : Int32).toNatClampNeg x1)) 2 (upd ((upA a 1 (upd (a 1) (((upd g 8 s0) 1) : Int32).toNatClampNeg x1)) 2) (((upd g 8 s0) 1) : Int32).toNatClampNeg 0))) rfl 1 (by decide) (hw _ bw782) (fun _ h9 => h9) rfl dX12_relation_83 ?_
      refine lv_iconst (v := 1) hx hb dX12_relation_86 (by decide) ?_
      refine lv_isub hx hb dX12_relation_87 ?_
      exact xi_retS (fr := (fun r => r.1)) (fw := (fun r => wM E r.2.1 r.2.2)) hx hb hr hlocks (Option.some.inj hf) hP hS dX12_relation_88
    · replace hf := (if_neg c4).symm.trans hf
      refine lv_iconst (v := 0) hx hb dX12_relation_50 (by decide) ?_
      exact xi_retS (fr := (fun r => r.1)) (fw := (fun r => wM E r.2.1 r.2.2)) hx hb hr hlocks (Option.some.inj hf) hP hS dX12_relation_51
  have B16 : ∀ (g : xG) (a : xA) (x1 : Int32) (s0 : Int32) (s1 : Int32) (s2 : Int32) (H : Heap) (locs : List Loc) (ls : Array Slot), va_P E.1 vwCl (wM E g a) H → va_S A s.heap H locs → lv_has ls 2 [(0, .ref (E.2.1 0)), (1, .int x1)] → f_X12_relation_16 g a x1 s0 s1 s2 = some res → W p l e ({ frames := 1, cells := 0, slots := 0, locals := 22 }) s m ([.ref (E.2.1 0), .int v1] : List Value).toArray below meth c H locs 0 0 (MQ below ((xQi E res.1 (wM E res.2.1 res.2.2)) A) ([.ref (E.2.1 0), .int v1] : List Value).toArray s 0 0 A) (F0 m 16 ls [.int s0, .int s1, .int s2, .ref (E.2.1 0)]) := by
    intro g a x1 s0 s1 s2 H locs ls hP hS hl hf
    unfold f_X12_relation_16 at hf
    refine xci (xRunS (rest := [.ref (E.2.1 0)]) (As := [.int s2, .int s1, .int s0]) (k := 3) C0 (c_X12_in l E g a s2 s1 s0) bw772 bw785 bw778 bw786 hd_X12_in ⟨Nat.le_of_ble_eq_true rfl, Nat.le_of_ble_eq_true rfl⟩ hP (wM_D hD) hS rfl hl.1 rfl (Nat.le_of_ble_eq_true rfl) dX12_relation_16 ⟨Nat.zero_le _, Nat.zero_le _⟩) hS (fun H locs hP hS => ?_)
    refine lv_if_ne (tgt := 26) hx hb dX12_relation_19 (by decide) (fun c2 => ?_) (fun c2 => ?_)
    · replace hf := (if_neg c2).symm.trans hf
      refine lv_aload_n hx hb dX12_relation_26 rfl (lv_at hl 0 rfl) ?_
      refine va_get (C := RX12) (T := TX12) (N := 22) hx hb hw bfX120 hown hK hP 0 (gm_0 E g a) rfl 1 (by decide) (hw _ bw782) (fun _ h9 => h9) rfl dX12_relation_27 ?_
      refine lv_bipush (v := 8) hx hb dX12_relation_30 (by decide) ?_
      refine lv_icmp_ne (tgt := 39) hx hb dX12_relation_32 (by decide) (fun c3 => ?_) (fun c3 => ?_)
      · replace hf := (if_neg c3).symm.trans hf
        refine lv_iconst (v := 0) hx hb dX12_relation_39 (by decide) ?_
        exact B40 g a x1 0 _ _ _ hP hS (lv_sub hl [0, 1] rfl) hf
      · replace hf := (if_pos c3).symm.trans hf
        refine lv_iconst (v := 2) hx hb dX12_relation_35 (by decide) ?_
        refine lv_goto (tgt := 40) hx hb dX12_relation_36 (by decide) ?_
        exact B40 g a x1 2 _ _ _ hP hS (lv_sub hl [0, 1] rfl) hf
    · replace hf := (if_pos c2).symm.trans hf
      refine lv_iconst (v := 1) hx hb dX12_relation_22 (by decide) ?_
      refine lv_goto (tgt := 40) hx hb dX12_relation_23 (by decide) ?_
      exact B40 g a x1 1 _ _ _ hP hS (lv_sub hl [0, 1] rfl) hf
  refine lv_aload_n hx hb dX12_relation_0 rfl (lv_at hl 0 rfl) ?_
  refine lv_iload_n hx hb dX12_relation_1 rfl (lv_at hl 1 rfl) ?_
  refine lv_iconst (v := 1) hx hb dX12_relation_2 (by decide) ?_
  refine lv_aload_n hx hb dX12_relation_3 rfl (lv_at hl 0 rfl) ?_
  refine va_get (C := RX12) (T := TX12) (N := 22) hx hb hw bfX120 hown hK hP 0 (gm_0 E g a) rfl 0 (by decide) (hw _ bw755) (fun _ h9 => h9) rfl dX12_relation_4 ?_
  refine lv_iconst (v := 2) hx hb dX12_relation_7 (by decide) ?_
  refine lv_icmp_ne (tgt := 15) hx hb dX12_relation_8 (by decide) (fun c1 => ?_) (fun c1 => ?_)
  · replace hf := (if_neg c1).symm.trans hf
    refine lv_iconst (v := 2) hx hb dX12_relation_15 (by decide) ?_
    exact B16 g a v1 2 1 v1 _ _ _ hP hS (lv_sub hl [0, 1] rfl) hf
  · replace hf := (if_pos c1).symm.trans hf
    refine lv_iconst (v := 3) hx hb dX12_relation_11 (by decide) ?_
    refine lv_goto (tgt := 16) hx hb dX12_relation_12 (by decide) ?_
    exact B16 g a v1 3 1 v1 _ _ _ hP hS (lv_sub hl [0, 1] rfl) hf
def f_X12_isRelation (g : xG) (a : xA) (v1 : Int32) : Option (Int32) := ck (boB (t_X12_in g a v1 0 ((g 1) - 1))) (some (t_X12_in g a v1 0 ((g 1) - 1)))
set_option maxRecDepth 100000 in
set_option maxHeartbeats 40000000 in
theorem c_X12_isRelation (l : Launch) (E : xE) (g : xG) (a : xA) (v1 : Int32) {res : Int32} (hf : f_X12_isRelation g a v1 = some res) : xM l E yX12_isRelation cX12_isRelation 2 (some .boolean) 1 22 [.ref (E.2.1 0), .int v1] (wM E g a) (xQi E res (wM E g a)) := by
  unfold f_X12_isRelation at hf
  refine xM_of (by decide) (Nat.le_of_ble_eq_true rfl) ?_
  intro p e s m below meth c A hx hb hr hml hts hown hlocks hA hD hP hK hN hS ls hl
  have hw : ∀ w ∈ BW, w.before _ s = true := fun w h => hts w (List.mem_cons_of_mem _ h)
  have C0 : xCtx E p m c cX12_isRelation 2 s _ RX12 A yX12_isRelation cX12_isRelation 2 (some .boolean) := ⟨hx, hb, hml, hown, hts, hA, hK, hN⟩
  have hl : lv_has ls 2 [(0, .ref (E.2.1 0)), (1, .int v1)] := hl
  refine lv_iload_n hx hb dX12_isRelation_0 rfl (lv_at hl 1 rfl) ?_
  refine lv_iconst (v := 0) hx hb dX12_isRelation_1 (by decide) ?_
  refine lv_aload_n hx hb dX12_isRelation_2 rfl (lv_at hl 0 rfl) ?_
  refine va_get (C := RX12) (T := TX12) (N := 22) hx hb hw bfX120 hown hK hP 0 (gm_0 E g a) rfl 1 (by decide) (hw _ bw782) (fun _ h9 => h9) rfl dX12_isRelation_3 ?_
  refine lv_iconst (v := 1) hx hb dX12_isRelation_6 (by decide) ?_
  refine lv_isub hx hb dX12_isRelation_7 ?_
  refine xci (xRunS (rest := []) (As := [.int v1, .int 0, .int ((g 1) - 1)]) (k := 3) C0 (c_X12_in l E g a v1 0 ((g 1) - 1)) bw772 bw785 bw778 bw786 hd_X12_in ⟨Nat.le_of_ble_eq_true rfl, Nat.le_of_ble_eq_true rfl⟩ hP (wM_D hD) hS rfl hl.1 rfl (Nat.le_of_ble_eq_true rfl) dX12_isRelation_8 ⟨Nat.zero_le _, Nat.zero_le _⟩) hS (fun H locs hP hS => ?_)
  obtain ⟨k1, hf⟩ := ck_some hf
  exact xz_retS (fr := (fun r => r)) (fw := (fun r => wM E g a)) hx hb hr hlocks (Option.some.inj hf) (boB_bo k1) hP hS dX12_isRelation_11
def f_X12_tuple_34 (g : xG) (a : xA) (x1 : Int32) (x2 : Int32) (x3 : Int32) (s0 : Int32) : Option (Int32 × xG × xA) := (if ((upd g 8 s0) 8) ≤ 0 then ck (inB x1 8) ((if x3 = 0 then ck (inB x1 8) (ck (inB x1 8) (ck (boB (t_X12_isIn (upd g 8 s0) a (a 2 (x1 : Int32).toNatClampNeg) x2)) (some ((t_X12_isIn (upd g 8 s0) a (a 2 (x1 : Int32).toNatClampNeg) x2), (upd g 8 s0), (upA a 2 (upd (a 2) (x1 : Int32).toNatClampNeg ((a 2 (x1 : Int32).toNatClampNeg) &&& (((1 : Int32) <<< (x2 &&& 31)) ^^^ (-1))))))))) else ck (inB x1 8) (ck (inB x1 8) (ck (boB (t_X12_isIn (upd g 8 s0) a (a 2 (x1 : Int32).toNatClampNeg) x2)) (some ((t_X12_isIn (upd g 8 s0) a (a 2 (x1 : Int32).toNatClampNeg) x2), (upd g 8 s0), (upA a 2 (upd (a 2) (x1 : Int32).toNatClampNeg ((a 2 (x1 : Int32).toNatClampNeg) ||| ((1 : Int32) <<< (x2 &&& 31))))))))))) else some (0, (upd g 8 s0), a))
def f_X12_tuple (g : xG) (a : xA) (v1 : Int32) (v2 : Int32) (v3 : Int32) : Option (Int32 × xG × xA) := Option.bind (f_X12_isRelation g a v1) (fun u1 => (if u1 = 0 then f_X12_tuple_34 g a v1 v2 v3 1 else ck (inB v1 8) (Option.bind (f_X12_power g a (a 1 (v1 : Int32).toNatClampNeg)) (fun u5 => (if (t_X12_in g a v2 0 (u5 - 1)) = 0 then f_X12_tuple_34 g a v1 v2 v3 1 else f_X12_tuple_34 g a v1 v2 v3 0)))))
set_option maxRecDepth 100000 in
set_option maxHeartbeats 40000000 in
theorem c_X12_tuple (l : Launch) (E : xE) (g : xG) (a : xA) (v1 : Int32) (v2 : Int32) (v3 : Int32) {res : Int32 × xG × xA} (hf : f_X12_tuple g a v1 v2 v3 = some res) : xM l E yX12_tuple cX12_tuple 5 (some .boolean) 2 43 [.ref (E.2.1 0), .int v1, .int v2, .int v3] (wM E g a) (xQi E res.1 (wM E res.2.1 res.2.2)) := by
  unfold f_X12_tuple at hf
  refine xM_of (by decide) (Nat.le_of_ble_eq_true rfl) ?_
  intro p e s m below meth c A hx hb hr hml hts hown hlocks hA hD hP hK hN hS ls hl
  have hw : ∀ w ∈ BW, w.before _ s = true := fun w h => hts w (List.mem_cons_of_mem _ h)
  have C0 : xCtx E p m c cX12_tuple 5 s _ RX12 A yX12_tuple cX12_tuple 5 (some .boolean) := ⟨hx, hb, hml, hown, hts, hA, hK, hN⟩
  have hl : lv_has ls 5 [(0, .ref (E.2.1 0)), (1, .int v1), (2, .int v2), (3, .int v3)] := hl
  have B34 : ∀ (g : xG) (a : xA) (x1 : Int32) (x2 : Int32) (x3 : Int32) (s0 : Int32) (H : Heap) (locs : List Loc) (ls : Array Slot), va_P E.1 vwCl (wM E g a) H → va_S A s.heap H locs → lv_has ls 5 [(0, .ref (E.2.1 0)), (1, .int x1), (2, .int x2), (3, .int x3)] → f_X12_tuple_34 g a x1 x2 x3 s0 = some res → W p l e ({ frames := 2, cells := 0, slots := 0, locals := 43 }) s m ([.ref (E.2.1 0), .int v1, .int v2, .int v3] : List Value).toArray below meth c H locs 0 0 (MQ below ((xQi E res.1 (wM E res.2.1 res.2.2)) A) ([.ref (E.2.1 0), .int v1, .int v2, .int v3] : List Value).toArray s 0 0 A) (F0 m 34 ls [.int s0, .ref (E.2.1 0)]) := by
    intro g a x1 x2 x3 s0 H locs ls hP hS hl hf
    unfold f_X12_tuple_34 at hf
    refine va_put (v := .int s0) (ty := .int) (C := RX12) (T := TX12) (N := 22) hx hb hw bfX120 tyX12 tyX12_ok nmX12 hown hK hP (wM_D hD) hS 0 (gm_0 E g a) rfl 21 (by decide) (hw _ bw771) (fun _ h9 => h9) rfl (by decide +kernel) rfl rfl (Nat.le_of_ble_eq_true rfl) dX12_tuple_34 (fun H locs hP _ hS => ?_)
    have hP := xP_eq (sm_g8 E g a s0) hP
    refine lv_aload_n hx hb dX12_tuple_37 rfl (lv_at hl 0 rfl) ?_
    refine va_get (C := RX12) (T := TX12) (N := 22) hx hb hw bfX120 hown hK hP 0 (gm_0 E (upd g 8 s0) a) rfl 21 (by decide) (hw _ bw771) (fun _ h9 => h9) rfl dX12_tuple_38 ?_
    refine lv_if_le (tgt := 46) hx hb dX12_tuple_41 (by decide) (fun c8 => ?_) (fun c8 => ?_)
    · replace hf := (if_pos c8).symm.trans hf
      refine lv_aload_n hx hb dX12_tuple_46 rfl (lv_at hl 0 rfl) ?_
      refine va_get (C := RX12) (T := TX12) (N := 22) hx hb hw bfX120 hown hK hP 0 (gm_0 E (upd g 8 s0) a) rfl 3 (by decide) (hw _ bw757) (fun _ h9 => h9) rfl dX12_tuple_47 ?_
      refine lv_iload_n hx hb dX12_tuple_50 rfl (lv_at hl 1 rfl) ?_
      obtain ⟨k9, hf⟩ := ck_some hf
      refine va_iald hx hb hK hP 2 0 (gm_2 E (upd g 8 s0) a) rfl (inB_in k9) dX12_tuple_51 ?_
      refine lv_iload_n hx hb dX12_tuple_52 rfl (lv_at hl 2 rfl) ?_
      refine xci (xRunS (rest := []) (As := [.int (a 2 (x1 : Int32).toNatClampNeg), .int x2]) (k := 2) C0 (c_X12_isIn l E (upd g 8 s0) a (a 2 (x1 : Int32).toNatClampNeg) x2) bw779 bw793 bw778 bw794 hd_X12_isIn ⟨Nat.le_of_ble_eq_true rfl, Nat.le_of_ble_eq_true rfl⟩ hP (wM_D hD) hS rfl hl.1 rfl (Nat.le_of_ble_eq_true rfl) dX12_tuple_53 ⟨Nat.zero_le _, Nat.zero_le _⟩) hS (fun H locs hP hS => ?_)
      refine lv_istore (lv' := [(4, .int (t_X12_isIn (upd g 8 s0) a (a 2 (x1 : Int32).toNatClampNeg) x2)), (0, .ref (E.2.1 0)), (1, .int x1), (2, .int x2), (3, .int x3)]) hx hb dX12_tuple_56 hl (by decide) rfl (fun ls hl => ?_)
      refine lv_aload_n hx hb dX12_tuple_58 rfl (lv_at hl 1 rfl) ?_
      refine va_get (C := RX12) (T := TX12) (N := 22) hx hb hw bfX120 hown hK hP 0 (gm_0 E (upd g 8 s0) a) rfl 3 (by decide) (hw _ bw757) (fun _ h9 => h9) rfl dX12_tuple_59 ?_
      refine lv_iload_n hx hb dX12_tuple_62 rfl (lv_at hl 2 rfl) ?_
      refine lv_iload_n hx hb dX12_tuple_63 rfl (lv_at hl 4 rfl) ?_
      refine lv_if_eq (tgt := 80) hx hb dX12_tuple_64 (by decide) (fun c10 => ?_) (fun c10 => ?_)
      · replace hf := (if_pos c10).symm.trans hf
        refine lv_aload_n hx hb dX12_tuple_80 rfl (lv_at hl 1 rfl) ?_
        refine va_get (C := RX12) (T := TX12) (N := 22) hx hb hw bfX120 hown hK hP 0 (gm_0 E (upd g 8 s0) a) rfl 3 (by decide) (hw _ bw757) (fun _ h9 => h9) rfl dX12_tuple_81 ?_
        refine lv_iload_n hx hb dX12_tuple_84 rfl (lv_at hl 2 rfl) ?_
        obtain ⟨k11, hf⟩ := ck_some hf
        refine va_iald hx hb hK hP 2 0 (gm_2 E (upd g 8 s0) a) rfl (inB_in k11) dX12_tuple_85 ?_
        refine lv_iconst (v := 1) hx hb dX12_tuple_86 (by decide) ?_
        refine lv_iload_n hx hb dX12_tuple_87 rfl (lv_at hl 3 rfl) ?_
        refine lv_ishl hx hb dX12_tuple_88 ?_
        refine lv_iconst (v := (-1)) hx hb dX12_tuple_89 (by decide) ?_
        refine lv_ixor hx hb dX12_tuple_90 ?_
        refine lv_iand hx hb dX12_tuple_91 ?_
        obtain ⟨k12, hf⟩ := ck_some hf
        refine va_iast hx hb hK hP (wM_D hD) hS 2 0 (gm_2 E (upd g 8 s0) a) rfl (inB_in k12) dX12_tuple_92 (fun H locs hP _ hS => ?_)
        have hP := xP_eq (sm_a2 E (upd g 8 s0) a (upd (a 2) (x1 : Int32).toNatClampNeg ((a 2 (x1 : Int32).toNatClampNeg) &&& (((1 : Int32) <<< (x2 &&& 31)) ^^^ (-1))))) hP
        refine lv_iload hx hb dX12_tuple_93 (lv_at hl 0 rfl) ?_
        obtain ⟨k13, hf⟩ := ck_some hf
        exact xz_retS (fr := (fun r => r.1)) (fw := (fun r => wM E r.2.1 r.2.2)) hx hb hr hlocks (Option.some.inj hf) (boB_bo k13) hP hS dX12_tuple_95
      · replace hf := (if_neg c10).symm.trans hf
        refine lv_aload_n hx hb dX12_tuple_67 rfl (lv_at hl 1 rfl) ?_
        refine va_get (C := RX12) (T := TX12) (N := 22) hx hb hw bfX120 hown hK hP 0 (gm_0 E (upd g 8 s0) a) rfl 3 (by decide) (hw _ bw757) (fun _ h9 => h9) rfl dX12_tuple_68 ?_
        refine lv_iload_n hx hb dX12_tuple_71 rfl (lv_at hl 2 rfl) ?_
        obtain ⟨k14, hf⟩ := ck_some hf
        refine va_iald hx hb hK hP 2 0 (gm_2 E (upd g 8 s0) a) rfl (inB_in k14) dX12_tuple_72 ?_
        refine lv_iconst (v := 1) hx hb dX12_tuple_73 (by decide) ?_
        refine lv_iload_n hx hb dX12_tuple_74 rfl (lv_at hl 3 rfl) ?_
        refine lv_ishl hx hb dX12_tuple_75 ?_
        refine lv_ior hx hb dX12_tuple_76 ?_
        refine lv_goto (tgt := 92) hx hb dX12_tuple_77 (by decide) ?_
        obtain ⟨k15, hf⟩ := ck_some hf
        refine va_iast hx hb hK hP (wM_D hD) hS 2 0 (gm_2 E (upd g 8 s0) a) rfl (inB_in k15) dX12_tuple_92 (fun H locs hP _ hS => ?_)
        have hP := xP_eq (sm_a2 E (upd g 8 s0) a (upd (a 2) (x1 : Int32).toNatClampNeg ((a 2 (x1 : Int32).toNatClampNeg) ||| ((1 : Int32) <<< (x2 &&& 31))))) hP
        refine lv_iload hx hb dX12_tuple_93 (lv_at hl 0 rfl) ?_
        obtain ⟨k16, hf⟩ := ck_some hf
        exact xz_retS (fr := (fun r => r.1)) (fw := (fun r => wM E r.2.1 r.2.2)) hx hb hr hlocks (Option.some.inj hf) (boB_bo k16) hP hS dX12_tuple_95
    · replace hf := (if_neg c8).symm.trans hf
      refine lv_iconst (v := 0) hx hb dX12_tuple_44 (by decide) ?_
      exact xz_retS (fr := (fun r => r.1)) (fw := (fun r => wM E r.2.1 r.2.2)) hx hb hr hlocks (Option.some.inj hf) nz0 hP hS dX12_tuple_45
  refine lv_aload_n hx hb dX12_tuple_0 rfl (lv_at hl 0 rfl) ?_
  refine lv_aload_n hx hb dX12_tuple_1 rfl (lv_at hl 0 rfl) ?_
  refine lv_iload_n hx hb dX12_tuple_2 rfl (lv_at hl 1 rfl) ?_
  obtain ⟨u1, e2, hf⟩ := bd_some hf
  refine xci (xRunV (rest := [.ref (E.2.1 0)]) (As := [.int v1]) (C := RX12) (k := 1) C0 (c_X12_isRelation l E g a v1 e2) bw788 bw790 bw778 bw791 bw792 hd_X12_isRelation ⟨Nat.le_of_ble_eq_true rfl, Nat.le_of_ble_eq_true rfl⟩ hP (wM_D hD) hS (va_recv hK hP (ci := 12) rfl (gm_0 E g a)) rfl hl.1 rfl (Nat.le_of_ble_eq_true rfl) dX12_tuple_3 ⟨Nat.zero_le _, Nat.zero_le _⟩) hS (fun H locs hP hS => ?_)
  refine lv_if_eq (tgt := 33) hx hb dX12_tuple_6 (by decide) (fun c3 => ?_) (fun c3 => ?_)
  · replace hf := (if_pos c3).symm.trans hf
    refine lv_iconst (v := 1) hx hb dX12_tuple_33 (by decide) ?_
    exact B34 g a v1 v2 v3 1 _ _ _ hP hS (lv_sub hl [0, 1, 2, 3] rfl) hf
  · replace hf := (if_neg c3).symm.trans hf
    refine lv_iload_n hx hb dX12_tuple_9 rfl (lv_at hl 2 rfl) ?_
    refine lv_iconst (v := 0) hx hb dX12_tuple_10 (by decide) ?_
    refine lv_aload_n hx hb dX12_tuple_11 rfl (lv_at hl 0 rfl) ?_
    refine lv_aload_n hx hb dX12_tuple_12 rfl (lv_at hl 0 rfl) ?_
    refine va_get (C := RX12) (T := TX12) (N := 22) hx hb hw bfX120 hown hK hP 0 (gm_0 E g a) rfl 2 (by decide) (hw _ bw756) (fun _ h9 => h9) rfl dX12_tuple_13 ?_
    refine lv_iload_n hx hb dX12_tuple_16 rfl (lv_at hl 1 rfl) ?_
    obtain ⟨k4, hf⟩ := ck_some hf
    refine va_iald hx hb hK hP 1 0 (gm_1 E g a) rfl (inB_in k4) dX12_tuple_17 ?_
    obtain ⟨u5, e6, hf⟩ := bd_some hf
    refine xci (xRunV (rest := [.int 0, .int v2, .ref (E.2.1 0)]) (As := [.int (a 1 (v1 : Int32).toNatClampNeg)]) (C := RX12) (k := 1) C0 (c_X12_power l E g a (a 1 (v1 : Int32).toNatClampNeg) e6) bw773 bw775 bw778 bw776 bw777 hd_X12_power ⟨Nat.le_of_ble_eq_true rfl, Nat.le_of_ble_eq_true rfl⟩ hP (wM_D hD) hS (va_recv hK hP (ci := 12) rfl (gm_0 E g a)) rfl hl.1 rfl (Nat.le_of_ble_eq_true rfl) dX12_tuple_18 ⟨Nat.zero_le _, Nat.zero_le _⟩) hS (fun H locs hP hS => ?_)
    refine lv_iconst (v := 1) hx hb dX12_tuple_21 (by decide) ?_
    refine lv_isub hx hb dX12_tuple_22 ?_
    refine xci (xRunS (rest := [.ref (E.2.1 0)]) (As := [.int v2, .int 0, .int (u5 - 1)]) (k := 3) C0 (c_X12_in l E g a v2 0 (u5 - 1)) bw772 bw785 bw778 bw786 hd_X12_in ⟨Nat.le_of_ble_eq_true rfl, Nat.le_of_ble_eq_true rfl⟩ hP (wM_D hD) hS rfl hl.1 rfl (Nat.le_of_ble_eq_true rfl) dX12_tuple_23 ⟨Nat.zero_le _, Nat.zero_le _⟩) hS (fun H locs hP hS => ?_)
    refine lv_if_eq (tgt := 33) hx hb dX12_tuple_26 (by decide) (fun c7 => ?_) (fun c7 => ?_)
    · replace hf := (if_pos c7).symm.trans hf
      refine lv_iconst (v := 1) hx hb dX12_tuple_33 (by decide) ?_
      exact B34 g a v1 v2 v3 1 _ _ _ hP hS (lv_sub hl [0, 1, 2, 3] rfl) hf
    · replace hf := (if_neg c7).symm.trans hf
      refine lv_iconst (v := 0) hx hb dX12_tuple_29 (by decide) ?_
      refine lv_goto (tgt := 34) hx hb dX12_tuple_30 (by decide) ?_
      exact B34 g a v1 v2 v3 0 _ _ _ hP hS (lv_sub hl [0, 1, 2, 3] rfl) hf
def f_X12_ofRelation_27 (a : xA) (g : xG) (x1 : Int32) (x2 : Int32) (s0 : Int32) : Option (Int32 × xG) := (if ((upd g 8 s0) 8) ≤ 0 then (if x2 = 0 then ck (inB x1 8) (some ((a 1 (x1 : Int32).toNatClampNeg), (upd g 8 s0))) else (if x2 = 1 then ck (inB x1 8) (some ((a 2 (x1 : Int32).toNatClampNeg), (upd g 8 s0))) else ck (inB x1 8) (Option.bind (f_X12_count (upd g 8 s0) a (a 2 (x1 : Int32).toNatClampNeg)) (fun u9 => some (u9, (upd g 8 s0)))))) else some (0, (upd g 8 s0)))
def f_X12_ofRelation (g : xG) (a : xA) (v1 : Int32) (v2 : Int32) : Option (Int32 × xG) := Option.bind (f_X12_isRelation g a v1) (fun u1 => (if u1 = 0 then f_X12_ofRelation_27 a g v1 v2 1 else (if (t_X12_in g a v2 0 2) = 0 then f_X12_ofRelation_27 a g v1 v2 2 else f_X12_ofRelation_27 a g v1 v2 0)))
set_option maxRecDepth 100000 in
set_option maxHeartbeats 40000000 in
theorem c_X12_ofRelation (l : Launch) (E : xE) (g : xG) (a : xA) (v1 : Int32) (v2 : Int32) {res : Int32 × xG} (hf : f_X12_ofRelation g a v1 v2 = some res) : xM l E yX12_ofRelation cX12_ofRelation 3 (some .int) 2 43 [.ref (E.2.1 0), .int v1, .int v2] (wM E g a) (xQi E res.1 (wM E res.2 a)) := by
  unfold f_X12_ofRelation at hf
  refine xM_of (by decide) (Nat.le_of_ble_eq_true rfl) ?_
  intro p e s m below meth c A hx hb hr hml hts hown hlocks hA hD hP hK hN hS ls hl
  have hw : ∀ w ∈ BW, w.before _ s = true := fun w h => hts w (List.mem_cons_of_mem _ h)
  have C0 : xCtx E p m c cX12_ofRelation 3 s _ RX12 A yX12_ofRelation cX12_ofRelation 3 (some .int) := ⟨hx, hb, hml, hown, hts, hA, hK, hN⟩
  have hl : lv_has ls 3 [(0, .ref (E.2.1 0)), (1, .int v1), (2, .int v2)] := hl
  have B27 : ∀ (g : xG) (x1 : Int32) (x2 : Int32) (s0 : Int32) (H : Heap) (locs : List Loc) (ls : Array Slot), va_P E.1 vwCl (wM E g a) H → va_S A s.heap H locs → lv_has ls 3 [(0, .ref (E.2.1 0)), (1, .int x1), (2, .int x2)] → f_X12_ofRelation_27 a g x1 x2 s0 = some res → W p l e ({ frames := 2, cells := 0, slots := 0, locals := 43 }) s m ([.ref (E.2.1 0), .int v1, .int v2] : List Value).toArray below meth c H locs 0 0 (MQ below ((xQi E res.1 (wM E res.2 a)) A) ([.ref (E.2.1 0), .int v1, .int v2] : List Value).toArray s 0 0 A) (F0 m 27 ls [.int s0, .ref (E.2.1 0)]) := by
    intro g x1 x2 s0 H locs ls hP hS hl hf
    unfold f_X12_ofRelation_27 at hf
    refine va_put (v := .int s0) (ty := .int) (C := RX12) (T := TX12) (N := 22) hx hb hw bfX120 tyX12 tyX12_ok nmX12 hown hK hP (wM_D hD) hS 0 (gm_0 E g a) rfl 21 (by decide) (hw _ bw771) (fun _ h9 => h9) rfl (by decide +kernel) rfl rfl (Nat.le_of_ble_eq_true rfl) dX12_ofRelation_27 (fun H locs hP _ hS => ?_)
    have hP := xP_eq (sm_g8 E g a s0) hP
    refine lv_aload_n hx hb dX12_ofRelation_30 rfl (lv_at hl 0 rfl) ?_
    refine va_get (C := RX12) (T := TX12) (N := 22) hx hb hw bfX120 hown hK hP 0 (gm_0 E (upd g 8 s0) a) rfl 21 (by decide) (hw _ bw771) (fun _ h9 => h9) rfl dX12_ofRelation_31 ?_
    refine lv_if_le (tgt := 39) hx hb dX12_ofRelation_34 (by decide) (fun c5 => ?_) (fun c5 => ?_)
    · replace hf := (if_pos c5).symm.trans hf
      refine lv_iload_n hx hb dX12_ofRelation_39 rfl (lv_at hl 2 rfl) ?_
      refine lv_if_ne (tgt := 52) hx hb dX12_ofRelation_40 (by decide) (fun c6 => ?_) (fun c6 => ?_)
      · replace hf := (if_neg c6).symm.trans hf
        refine lv_iload_n hx hb dX12_ofRelation_52 rfl (lv_at hl 2 rfl) ?_
        refine lv_iconst (v := 1) hx hb dX12_ofRelation_53 (by decide) ?_
        refine lv_icmp_ne (tgt := 66) hx hb dX12_ofRelation_54 (by decide) (fun c7 => ?_) (fun c7 => ?_)
        · replace hf := (if_neg c7).symm.trans hf
          refine lv_aload_n hx hb dX12_ofRelation_66 rfl (lv_at hl 0 rfl) ?_
          refine va_get (C := RX12) (T := TX12) (N := 22) hx hb hw bfX120 hown hK hP 0 (gm_0 E (upd g 8 s0) a) rfl 3 (by decide) (hw _ bw757) (fun _ h9 => h9) rfl dX12_ofRelation_67 ?_
          refine lv_iload_n hx hb dX12_ofRelation_70 rfl (lv_at hl 1 rfl) ?_
          obtain ⟨k8, hf⟩ := ck_some hf
          refine va_iald hx hb hK hP 2 0 (gm_2 E (upd g 8 s0) a) rfl (inB_in k8) dX12_ofRelation_71 ?_
          obtain ⟨u9, e10, hf⟩ := bd_some hf
          refine xci (xRunS (rest := []) (As := [.int (a 2 (x1 : Int32).toNatClampNeg)]) (k := 1) C0 (c_X12_count l E (upd g 8 s0) a (a 2 (x1 : Int32).toNatClampNeg) e10) bw780 bw796 bw778 bw797 hd_X12_count ⟨Nat.le_of_ble_eq_true rfl, Nat.le_of_ble_eq_true rfl⟩ hP (wM_D hD) hS rfl hl.1 rfl (Nat.le_of_ble_eq_true rfl) dX12_ofRelation_72 ⟨Nat.zero_le _, Nat.zero_le _⟩) hS (fun H locs hP hS => ?_)
          exact xi_retS (fr := (fun r => r.1)) (fw := (fun r => wM E r.2 a)) hx hb hr hlocks (Option.some.inj hf) hP hS dX12_ofRelation_75
        · replace hf := (if_pos c7).symm.trans hf
          refine lv_aload_n hx hb dX12_ofRelation_57 rfl (lv_at hl 0 rfl) ?_
          refine va_get (C := RX12) (T := TX12) (N := 22) hx hb hw bfX120 hown hK hP 0 (gm_0 E (upd g 8 s0) a) rfl 3 (by decide) (hw _ bw757) (fun _ h9 => h9) rfl dX12_ofRelation_58 ?_
          refine lv_iload_n hx hb dX12_ofRelation_61 rfl (lv_at hl 1 rfl) ?_
          obtain ⟨k11, hf⟩ := ck_some hf
          refine va_iald hx hb hK hP 2 0 (gm_2 E (upd g 8 s0) a) rfl (inB_in k11) dX12_ofRelation_62 ?_
          refine lv_goto (tgt := 75) hx hb dX12_ofRelation_63 (by decide) ?_
          exact xi_retS (fr := (fun r => r.1)) (fw := (fun r => wM E r.2 a)) hx hb hr hlocks (Option.some.inj hf) hP hS dX12_ofRelation_75
      · replace hf := (if_pos c6).symm.trans hf
        refine lv_aload_n hx hb dX12_ofRelation_43 rfl (lv_at hl 0 rfl) ?_
        refine va_get (C := RX12) (T := TX12) (N := 22) hx hb hw bfX120 hown hK hP 0 (gm_0 E (upd g 8 s0) a) rfl 2 (by decide) (hw _ bw756) (fun _ h9 => h9) rfl dX12_ofRelation_44 ?_
        refine lv_iload_n hx hb dX12_ofRelation_47 rfl (lv_at hl 1 rfl) ?_
        obtain ⟨k12, hf⟩ := ck_some hf
        refine va_iald hx hb hK hP 1 0 (gm_1 E (upd g 8 s0) a) rfl (inB_in k12) dX12_ofRelation_48 ?_
        refine lv_goto (tgt := 75) hx hb dX12_ofRelation_49 (by decide) ?_
        exact xi_retS (fr := (fun r => r.1)) (fw := (fun r => wM E r.2 a)) hx hb hr hlocks (Option.some.inj hf) hP hS dX12_ofRelation_75
    · replace hf := (if_neg c5).symm.trans hf
      refine lv_iconst (v := 0) hx hb dX12_ofRelation_37 (by decide) ?_
      exact xi_retS (fr := (fun r => r.1)) (fw := (fun r => wM E r.2 a)) hx hb hr hlocks (Option.some.inj hf) hP hS dX12_ofRelation_38
  refine lv_aload_n hx hb dX12_ofRelation_0 rfl (lv_at hl 0 rfl) ?_
  refine lv_aload_n hx hb dX12_ofRelation_1 rfl (lv_at hl 0 rfl) ?_
  refine lv_iload_n hx hb dX12_ofRelation_2 rfl (lv_at hl 1 rfl) ?_
  obtain ⟨u1, e2, hf⟩ := bd_some hf
  refine xci (xRunV (rest := [.ref (E.2.1 0)]) (As := [.int v1]) (C := RX12) (k := 1) C0 (c_X12_isRelation l E g a v1 e2) bw788 bw790 bw778 bw791 bw792 hd_X12_isRelation ⟨Nat.le_of_ble_eq_true rfl, Nat.le_of_ble_eq_true rfl⟩ hP (wM_D hD) hS (va_recv hK hP (ci := 12) rfl (gm_0 E g a)) rfl hl.1 rfl (Nat.le_of_ble_eq_true rfl) dX12_ofRelation_3 ⟨Nat.zero_le _, Nat.zero_le _⟩) hS (fun H locs hP hS => ?_)
  refine lv_if_ne (tgt := 13) hx hb dX12_ofRelation_6 (by decide) (fun c3 => ?_) (fun c3 => ?_)
  · replace hf := (if_neg c3).symm.trans hf
    refine lv_iload_n hx hb dX12_ofRelation_13 rfl (lv_at hl 2 rfl) ?_
    refine lv_iconst (v := 0) hx hb dX12_ofRelation_14 (by decide) ?_
    refine lv_iconst (v := 2) hx hb dX12_ofRelation_15 (by decide) ?_
    refine xci (xRunS (rest := [.ref (E.2.1 0)]) (As := [.int v2, .int 0, .int 2]) (k := 3) C0 (c_X12_in l E g a v2 0 2) bw772 bw785 bw778 bw786 hd_X12_in ⟨Nat.le_of_ble_eq_true rfl, Nat.le_of_ble_eq_true rfl⟩ hP (wM_D hD) hS rfl hl.1 rfl (Nat.le_of_ble_eq_true rfl) dX12_ofRelation_16 ⟨Nat.zero_le _, Nat.zero_le _⟩) hS (fun H locs hP hS => ?_)
    refine lv_if_ne (tgt := 26) hx hb dX12_ofRelation_19 (by decide) (fun c4 => ?_) (fun c4 => ?_)
    · replace hf := (if_neg c4).symm.trans hf
      refine lv_iconst (v := 0) hx hb dX12_ofRelation_26 (by decide) ?_
      exact B27 g v1 v2 0 _ _ _ hP hS (lv_sub hl [0, 1, 2] rfl) hf
    · replace hf := (if_pos c4).symm.trans hf
      refine lv_iconst (v := 2) hx hb dX12_ofRelation_22 (by decide) ?_
      refine lv_goto (tgt := 27) hx hb dX12_ofRelation_23 (by decide) ?_
      exact B27 g v1 v2 2 _ _ _ hP hS (lv_sub hl [0, 1, 2] rfl) hf
  · replace hf := (if_pos c3).symm.trans hf
    refine lv_iconst (v := 1) hx hb dX12_ofRelation_9 (by decide) ?_
    refine lv_goto (tgt := 27) hx hb dX12_ofRelation_10 (by decide) ?_
    exact B27 g v1 v2 1 _ _ _ hP hS (lv_sub hl [0, 1, 2] rfl) hf
def f_X12_takes_12 : Nat → xG → xA → Int32 → Option (Int32 × xG × xA)
  | 0, _, _, _ => none
  | n + 1, g, a, x2 => (if 27 ≤ x2 then some ((((upd g 2 ((g 2) + 1)) 2) - 1), (upd g 2 ((g 2) + 1)), a) else ck (nzB (g 0)) (ck (inB ((27 * (g 2)) + x2) 189) (f_X12_takes_12 n g (upA a 4 (upd (a 4) (((27 * (g 2)) + x2) : Int32).toNatClampNeg (x2 - x2 / (g 0) * (g 0)))) (x2 + 1))))
theorem e_X12_takes_12 (n : Nat) (g : xG) (a : xA) (x2 : Int32) : f_X12_takes_12 (n + 1) g a x2 = (if 27 ≤ x2 then some ((((upd g 2 ((g 2) + 1)) 2) - 1), (upd g 2 ((g 2) + 1)), a) else ck (nzB (g 0)) (ck (inB ((27 * (g 2)) + x2) 189) (f_X12_takes_12 n g (upA a 4 (upd (a 4) (((27 * (g 2)) + x2) : Int32).toNatClampNeg (x2 - x2 / (g 0) * (g 0)))) (x2 + 1)))) := rfl
def f_X12_takes (g : xG) (a : xA) (v1 : Int32) : Option (Int32 × xG × xA) := ck (inB (g 2) 6) (f_X12_takes_12 fu g (upA a 3 (upd (a 3) ((g 2) : Int32).toNatClampNeg v1)) 0)
set_option maxRecDepth 100000 in
set_option maxHeartbeats 40000000 in
theorem c_X12_takes (l : Launch) (E : xE) (g : xG) (a : xA) (v1 : Int32) {res : Int32 × xG × xA} (hf : f_X12_takes g a v1 = some res) : xM l E yX12_takes cX12_takes 3 (some .int) 0 0 [.ref (E.2.1 0), .int v1] (wM E g a) (xQi E res.1 (wM E res.2.1 res.2.2)) := by
  unfold f_X12_takes at hf
  refine xM_of (by decide) (Nat.le_of_ble_eq_true rfl) ?_
  intro p e s m below meth c A hx hb hr hml hts hown hlocks hA hD hP hK hN hS ls hl
  have hw : ∀ w ∈ BW, w.before _ s = true := fun w h => hts w (List.mem_cons_of_mem _ h)
  have C0 : xCtx E p m c cX12_takes 3 s _ RX12 A yX12_takes cX12_takes 3 (some .int) := ⟨hx, hb, hml, hown, hts, hA, hK, hN⟩
  have hl : lv_has ls 3 [(0, .ref (E.2.1 0)), (1, .int v1)] := hl
  have B12 : ∀ (n : Nat) (g : xG) (a : xA) (x2 : Int32) (H : Heap) (locs : List Loc) (ls : Array Slot), va_P E.1 vwCl (wM E g a) H → va_S A s.heap H locs → lv_has ls 3 [(0, .ref (E.2.1 0)), (2, .int x2)] → f_X12_takes_12 n g a x2 = some res → W p l e ({ frames := 0, cells := 0, slots := 0, locals := 0 }) s m ([.ref (E.2.1 0), .int v1] : List Value).toArray below meth c H locs 0 0 (MQ below ((xQi E res.1 (wM E res.2.1 res.2.2)) A) ([.ref (E.2.1 0), .int v1] : List Value).toArray s 0 0 A) (F0 m 12 ls []) := by
    intro n
    induction n with
    | zero => intro g a x2 H locs ls hP hS hl hf; exact absurd (show (none : Option (Int32 × xG × xA)) = some res from hf) (by intro h; cases h)
    | succ n ih =>
      intro g a x2 H locs ls hP hS hl hf
      replace hf := (e_X12_takes_12 n g a x2).symm.trans hf
      refine lv_iload_n hx hb dX12_takes_12 rfl (lv_at hl 1 rfl) ?_
      refine lv_bipush (v := 27) hx hb dX12_takes_13 (by decide) ?_
      refine lv_icmp_ge (tgt := 44) hx hb dX12_takes_15 (by decide) (fun c2 => ?_) (fun c2 => ?_)
      · replace hf := (if_pos c2).symm.trans hf
        refine lv_aload_n hx hb dX12_takes_44 rfl (lv_at hl 0 rfl) ?_
        refine lv_dup hx hb dX12_takes_45 rfl ?_
        refine va_get (C := RX12) (T := TX12) (N := 22) hx hb hw bfX120 hown hK hP 0 (gm_0 E g a) rfl 4 (by decide) (hw _ bw783) (fun _ h9 => h9) rfl dX12_takes_46 ?_
        refine lv_iconst (v := 1) hx hb dX12_takes_49 (by decide) ?_
        refine lv_iadd hx hb dX12_takes_50 ?_
        refine va_put (v := .int ((g 2) + 1)) (ty := .int) (C := RX12) (T := TX12) (N := 22) hx hb hw bfX120 tyX12 tyX12_ok nmX12 hown hK hP (wM_D hD) hS 0 (gm_0 E g a) rfl 4 (by decide) (hw _ bw783) (fun _ h9 => h9) rfl (by decide +kernel) rfl rfl (Nat.le_of_ble_eq_true rfl) dX12_takes_51 (fun H locs hP _ hS => ?_)
        have hP := xP_eq (sm_g2 E g a ((g 2) + 1)) hP
        refine lv_aload_n hx hb dX12_takes_54 rfl (lv_at hl 0 rfl) ?_
        refine va_get (C := RX12) (T := TX12) (N := 22) hx hb hw bfX120 hown hK hP 0 (gm_0 E (upd g 2 ((g 2) + 1)) a) rfl 4 (by decide) (hw _ bw783) (fun _ h9 => h9) rfl dX12_takes_55 ?_
        refine lv_iconst (v := 1) hx hb dX12_takes_58 (by decide) ?_
        refine lv_isub hx hb dX12_takes_59 ?_
        exact xi_retS (fr := (fun r => r.1)) (fw := (fun r => wM E r.2.1 r.2.2)) hx hb hr hlocks (Option.some.inj hf) hP hS dX12_takes_60
      · replace hf := (if_neg c2).symm.trans hf
        refine lv_aload_n hx hb dX12_takes_18 rfl (lv_at hl 0 rfl) ?_
        refine va_get (C := RX12) (T := TX12) (N := 22) hx hb hw bfX120 hown hK hP 0 (gm_0 E g a) rfl 6 (by decide) (hw _ bw759) (fun _ h9 => h9) rfl dX12_takes_19 ?_
        refine lv_bipush (v := 27) hx hb dX12_takes_22 (by decide) ?_
        refine lv_aload_n hx hb dX12_takes_24 rfl (lv_at hl 0 rfl) ?_
        refine va_get (C := RX12) (T := TX12) (N := 22) hx hb hw bfX120 hown hK hP 0 (gm_0 E g a) rfl 4 (by decide) (hw _ bw783) (fun _ h9 => h9) rfl dX12_takes_25 ?_
        refine lv_imul hx hb dX12_takes_28 ?_
        refine lv_iload_n hx hb dX12_takes_29 rfl (lv_at hl 1 rfl) ?_
        refine lv_iadd hx hb dX12_takes_30 ?_
        refine lv_iload_n hx hb dX12_takes_31 rfl (lv_at hl 1 rfl) ?_
        refine lv_aload_n hx hb dX12_takes_32 rfl (lv_at hl 0 rfl) ?_
        refine va_get (C := RX12) (T := TX12) (N := 22) hx hb hw bfX120 hown hK hP 0 (gm_0 E g a) rfl 0 (by decide) (hw _ bw755) (fun _ h9 => h9) rfl dX12_takes_33 ?_
        obtain ⟨k3, hf⟩ := ck_some hf
        refine lv_irem hx hb dX12_takes_36 (nzB_nz k3) ?_
        obtain ⟨k4, hf⟩ := ck_some hf
        refine va_iast hx hb hK hP (wM_D hD) hS 4 0 (gm_4 E g a) rfl (inB_in k4) dX12_takes_37 (fun H locs hP _ hS => ?_)
        have hP := xP_eq (sm_a4 E g a (upd (a 4) (((27 * (g 2)) + x2) : Int32).toNatClampNeg (x2 - x2 / (g 0) * (g 0)))) hP
        refine lv_iinc (v := (x2 + 1)) (lv' := [(2, .int (x2 + 1)), (0, .ref (E.2.1 0))]) hx hb dX12_takes_38 hl (k := 1) rfl rfl (by decide) rfl (fun ls hl => ?_)
        refine lv_goto (tgt := 12) hx hb dX12_takes_41 (by decide) ?_
        exact ih g (upA a 4 (upd (a 4) (((27 * (g 2)) + x2) : Int32).toNatClampNeg (x2 - x2 / (g 0) * (g 0)))) (x2 + 1) _ _ _ hP hS (lv_sub hl [1, 0] rfl) hf
  refine lv_aload_n hx hb dX12_takes_0 rfl (lv_at hl 0 rfl) ?_
  refine va_get (C := RX12) (T := TX12) (N := 22) hx hb hw bfX120 hown hK hP 0 (gm_0 E g a) rfl 5 (by decide) (hw _ bw758) (fun _ h9 => h9) rfl dX12_takes_1 ?_
  refine lv_aload_n hx hb dX12_takes_4 rfl (lv_at hl 0 rfl) ?_
  refine va_get (C := RX12) (T := TX12) (N := 22) hx hb hw bfX120 hown hK hP 0 (gm_0 E g a) rfl 4 (by decide) (hw _ bw783) (fun _ h9 => h9) rfl dX12_takes_5 ?_
  refine lv_iload_n hx hb dX12_takes_8 rfl (lv_at hl 1 rfl) ?_
  obtain ⟨k1, hf⟩ := ck_some hf
  refine va_iast hx hb hK hP (wM_D hD) hS 3 0 (gm_3 E g a) rfl (inB_in k1) dX12_takes_9 (fun H locs hP _ hS => ?_)
  have hP := xP_eq (sm_a3 E g a (upd (a 3) ((g 2) : Int32).toNatClampNeg v1)) hP
  refine lv_iconst (v := 0) hx hb dX12_takes_10 (by decide) ?_
  refine lv_istore_n (lv' := [(2, .int 0), (0, .ref (E.2.1 0)), (1, .int v1)]) hx hb dX12_takes_11 rfl hl (by decide) rfl (fun ls hl => ?_)
  exact B12 fu g (upA a 3 (upd (a 3) ((g 2) : Int32).toNatClampNeg v1)) 0 _ _ _ hP hS (lv_sub hl [1, 0] rfl) hf
def f_X12_operation_28 (g : xG) (a : xA) (x1 : Int32) (s0 : Int32) : Option (Int32 × xG × xA) := (if ((upd g 8 s0) 8) ≤ 0 then Option.bind (f_X12_takes (upd g 8 s0) a x1) (fun u4 => some (u4.1, u4.2.1, u4.2.2)) else some (0, (upd g 8 s0), a))
def f_X12_operation (g : xG) (a : xA) (v1 : Int32) : Option (Int32 × xG × xA) := (if (t_X12_in g a v1 1 3) = 0 then f_X12_operation_28 g a v1 1 else (if (g 2) = 6 then f_X12_operation_28 g a v1 2 else f_X12_operation_28 g a v1 0))
set_option maxRecDepth 100000 in
set_option maxHeartbeats 40000000 in
theorem c_X12_operation (l : Launch) (E : xE) (g : xG) (a : xA) (v1 : Int32) {res : Int32 × xG × xA} (hf : f_X12_operation g a v1 = some res) : xM l E yX12_operation cX12_operation 2 (some .int) 1 22 [.ref (E.2.1 0), .int v1] (wM E g a) (xQi E res.1 (wM E res.2.1 res.2.2)) := by
  unfold f_X12_operation at hf
  refine xM_of (by decide) (Nat.le_of_ble_eq_true rfl) ?_
  intro p e s m below meth c A hx hb hr hml hts hown hlocks hA hD hP hK hN hS ls hl
  have hw : ∀ w ∈ BW, w.before _ s = true := fun w h => hts w (List.mem_cons_of_mem _ h)
  have C0 : xCtx E p m c cX12_operation 2 s _ RX12 A yX12_operation cX12_operation 2 (some .int) := ⟨hx, hb, hml, hown, hts, hA, hK, hN⟩
  have hl : lv_has ls 2 [(0, .ref (E.2.1 0)), (1, .int v1)] := hl
  have B28 : ∀ (g : xG) (a : xA) (x1 : Int32) (s0 : Int32) (H : Heap) (locs : List Loc) (ls : Array Slot), va_P E.1 vwCl (wM E g a) H → va_S A s.heap H locs → lv_has ls 2 [(0, .ref (E.2.1 0)), (1, .int x1)] → f_X12_operation_28 g a x1 s0 = some res → W p l e ({ frames := 1, cells := 0, slots := 0, locals := 22 }) s m ([.ref (E.2.1 0), .int v1] : List Value).toArray below meth c H locs 0 0 (MQ below ((xQi E res.1 (wM E res.2.1 res.2.2)) A) ([.ref (E.2.1 0), .int v1] : List Value).toArray s 0 0 A) (F0 m 28 ls [.int s0, .ref (E.2.1 0)]) := by
    intro g a x1 s0 H locs ls hP hS hl hf
    unfold f_X12_operation_28 at hf
    refine va_put (v := .int s0) (ty := .int) (C := RX12) (T := TX12) (N := 22) hx hb hw bfX120 tyX12 tyX12_ok nmX12 hown hK hP (wM_D hD) hS 0 (gm_0 E g a) rfl 21 (by decide) (hw _ bw771) (fun _ h9 => h9) rfl (by decide +kernel) rfl rfl (Nat.le_of_ble_eq_true rfl) dX12_operation_28 (fun H locs hP _ hS => ?_)
    have hP := xP_eq (sm_g8 E g a s0) hP
    refine lv_aload_n hx hb dX12_operation_31 rfl (lv_at hl 0 rfl) ?_
    refine va_get (C := RX12) (T := TX12) (N := 22) hx hb hw bfX120 hown hK hP 0 (gm_0 E (upd g 8 s0) a) rfl 21 (by decide) (hw _ bw771) (fun _ h9 => h9) rfl dX12_operation_32 ?_
    refine lv_if_le (tgt := 42) hx hb dX12_operation_35 (by decide) (fun c3 => ?_) (fun c3 => ?_)
    · replace hf := (if_pos c3).symm.trans hf
      refine lv_aload_n hx hb dX12_operation_42 rfl (lv_at hl 0 rfl) ?_
      refine lv_iload_n hx hb dX12_operation_43 rfl (lv_at hl 1 rfl) ?_
      obtain ⟨u4, e5, hf⟩ := bd_some hf
      refine xci (xRunV (rest := []) (As := [.int x1]) (C := RX12) (k := 1) C0 (c_X12_takes l E (upd g 8 s0) a x1 e5) bw798 bw800 bw778 bw801 bw802 hd_X12_takes ⟨Nat.le_of_ble_eq_true rfl, Nat.le_of_ble_eq_true rfl⟩ hP (wM_D hD) hS (va_recv hK hP (ci := 12) rfl (gm_0 E (upd g 8 s0) a)) rfl hl.1 rfl (Nat.le_of_ble_eq_true rfl) dX12_operation_44 ⟨Nat.zero_le _, Nat.zero_le _⟩) hS (fun H locs hP hS => ?_)
      exact xi_retS (fr := (fun r => r.1)) (fw := (fun r => wM E r.2.1 r.2.2)) hx hb hr hlocks (Option.some.inj hf) hP hS dX12_operation_47
    · replace hf := (if_neg c3).symm.trans hf
      refine lv_iconst (v := 0) hx hb dX12_operation_38 (by decide) ?_
      refine lv_goto (tgt := 47) hx hb dX12_operation_39 (by decide) ?_
      exact xi_retS (fr := (fun r => r.1)) (fw := (fun r => wM E r.2.1 r.2.2)) hx hb hr hlocks (Option.some.inj hf) hP hS dX12_operation_47
  refine lv_aload_n hx hb dX12_operation_0 rfl (lv_at hl 0 rfl) ?_
  refine lv_iload_n hx hb dX12_operation_1 rfl (lv_at hl 1 rfl) ?_
  refine lv_iconst (v := 1) hx hb dX12_operation_2 (by decide) ?_
  refine lv_iconst (v := 3) hx hb dX12_operation_3 (by decide) ?_
  refine xci (xRunS (rest := [.ref (E.2.1 0)]) (As := [.int v1, .int 1, .int 3]) (k := 3) C0 (c_X12_in l E g a v1 1 3) bw772 bw785 bw778 bw786 hd_X12_in ⟨Nat.le_of_ble_eq_true rfl, Nat.le_of_ble_eq_true rfl⟩ hP (wM_D hD) hS rfl hl.1 rfl (Nat.le_of_ble_eq_true rfl) dX12_operation_4 ⟨Nat.zero_le _, Nat.zero_le _⟩) hS (fun H locs hP hS => ?_)
  refine lv_if_ne (tgt := 14) hx hb dX12_operation_7 (by decide) (fun c1 => ?_) (fun c1 => ?_)
  · replace hf := (if_neg c1).symm.trans hf
    refine lv_aload_n hx hb dX12_operation_14 rfl (lv_at hl 0 rfl) ?_
    refine va_get (C := RX12) (T := TX12) (N := 22) hx hb hw bfX120 hown hK hP 0 (gm_0 E g a) rfl 4 (by decide) (hw _ bw783) (fun _ h9 => h9) rfl dX12_operation_15 ?_
    refine lv_bipush (v := 6) hx hb dX12_operation_18 (by decide) ?_
    refine lv_icmp_ne (tgt := 27) hx hb dX12_operation_20 (by decide) (fun c2 => ?_) (fun c2 => ?_)
    · replace hf := (if_neg c2).symm.trans hf
      refine lv_iconst (v := 0) hx hb dX12_operation_27 (by decide) ?_
      exact B28 g a v1 0 _ _ _ hP hS (lv_sub hl [0, 1] rfl) hf
    · replace hf := (if_pos c2).symm.trans hf
      refine lv_iconst (v := 2) hx hb dX12_operation_23 (by decide) ?_
      refine lv_goto (tgt := 28) hx hb dX12_operation_24 (by decide) ?_
      exact B28 g a v1 2 _ _ _ hP hS (lv_sub hl [0, 1] rfl) hf
  · replace hf := (if_pos c1).symm.trans hf
    refine lv_iconst (v := 1) hx hb dX12_operation_10 (by decide) ?_
    refine lv_goto (tgt := 28) hx hb dX12_operation_11 (by decide) ?_
    exact B28 g a v1 1 _ _ _ hP hS (lv_sub hl [0, 1] rfl) hf
def f_X12_madeOf_50 (g : xG) (a : xA) (x1 : Int32) (x2 : Int32) (x3 : Int32) (x4 : Int32) (x5 : Int32) (x6 : Int32) (s0 : Int32) : Option (Int32) := (if x1 = 0 then some x5 else (if x1 = 1 then some x6 else (if x1 = 2 then some s0 else (if x1 = 3 then ck (nzB (g 0)) (some ((((x2 - x3) + x4) + (g 0)) - (((x2 - x3) + x4) + (g 0)) / (g 0) * (g 0))) else ck (nzB (g 0)) (some ((x2 + 1) - (x2 + 1) / (g 0) * (g 0)))))))
def f_X12_madeOf_22 (g : xG) (a : xA) (x1 : Int32) (x2 : Int32) (x3 : Int32) (x4 : Int32) (x5 : Int32) (s0 : Int32) : Option (Int32) := (if x5 ≤ x4 then (if x4 ≤ s0 then f_X12_madeOf_50 g a x1 x2 x3 x4 x5 s0 x4 else f_X12_madeOf_50 g a x1 x2 x3 x4 x5 s0 s0) else f_X12_madeOf_50 g a x1 x2 x3 x4 x5 s0 x5)
def f_X12_madeOf_10 (g : xG) (a : xA) (x1 : Int32) (x2 : Int32) (x3 : Int32) (x4 : Int32) (s0 : Int32) : Option (Int32) := (if x2 ≤ x3 then f_X12_madeOf_22 g a x1 x2 x3 x4 s0 x3 else f_X12_madeOf_22 g a x1 x2 x3 x4 s0 x2)
def f_X12_madeOf (g : xG) (a : xA) (v1 : Int32) (v2 : Int32) (v3 : Int32) (v4 : Int32) : Option (Int32) := (if v3 ≤ v2 then f_X12_madeOf_10 g a v1 v2 v3 v4 v3 else f_X12_madeOf_10 g a v1 v2 v3 v4 v2)
set_option maxRecDepth 100000 in
set_option maxHeartbeats 40000000 in
theorem c_X12_madeOf (l : Launch) (E : xE) (g : xG) (a : xA) (v1 : Int32) (v2 : Int32) (v3 : Int32) (v4 : Int32) {res : Int32} (hf : f_X12_madeOf g a v1 v2 v3 v4 = some res) : xM l E yX12_madeOf cX12_madeOf 8 (some .int) 0 0 [.ref (E.2.1 0), .int v1, .int v2, .int v3, .int v4] (wM E g a) (xQi E res (wM E g a)) := by
  unfold f_X12_madeOf at hf
  refine xM_of (by decide) (Nat.le_of_ble_eq_true rfl) ?_
  intro p e s m below meth c A hx hb hr hml hts hown hlocks hA hD hP hK hN hS ls hl
  have hw : ∀ w ∈ BW, w.before _ s = true := fun w h => hts w (List.mem_cons_of_mem _ h)
  have C0 : xCtx E p m c cX12_madeOf 8 s _ RX12 A yX12_madeOf cX12_madeOf 8 (some .int) := ⟨hx, hb, hml, hown, hts, hA, hK, hN⟩
  have hl : lv_has ls 8 [(0, .ref (E.2.1 0)), (1, .int v1), (2, .int v2), (3, .int v3), (4, .int v4)] := hl
  have B50 : ∀ (x1 : Int32) (x2 : Int32) (x3 : Int32) (x4 : Int32) (x5 : Int32) (x6 : Int32) (s0 : Int32) (H : Heap) (locs : List Loc) (ls : Array Slot), va_P E.1 vwCl (wM E g a) H → va_S A s.heap H locs → lv_has ls 8 [(0, .ref (E.2.1 0)), (1, .int x1), (2, .int x2), (3, .int x3), (4, .int x4), (5, .int x5), (6, .int x6)] → f_X12_madeOf_50 g a x1 x2 x3 x4 x5 x6 s0 = some res → W p l e ({ frames := 0, cells := 0, slots := 0, locals := 0 }) s m ([.ref (E.2.1 0), .int v1, .int v2, .int v3, .int v4] : List Value).toArray below meth c H locs 0 0 (MQ below ((xQi E res (wM E g a)) A) ([.ref (E.2.1 0), .int v1, .int v2, .int v3, .int v4] : List Value).toArray s 0 0 A) (F0 m 50 ls [.int s0]) := by
    intro x1 x2 x3 x4 x5 x6 s0 H locs ls hP hS hl hf
    unfold f_X12_madeOf_50 at hf
    refine lv_istore (lv' := [(7, .int s0), (0, .ref (E.2.1 0)), (1, .int x1), (2, .int x2), (3, .int x3), (4, .int x4), (5, .int x5), (6, .int x6)]) hx hb dX12_madeOf_50 hl (by decide) rfl (fun ls hl => ?_)
    refine lv_iload_n hx hb dX12_madeOf_52 rfl (lv_at hl 2 rfl) ?_
    refine lv_if_ne (tgt := 61) hx hb dX12_madeOf_53 (by decide) (fun c5 => ?_) (fun c5 => ?_)
    · replace hf := (if_neg c5).symm.trans hf
      refine lv_iload_n hx hb dX12_madeOf_61 rfl (lv_at hl 2 rfl) ?_
      refine lv_iconst (v := 1) hx hb dX12_madeOf_62 (by decide) ?_
      refine lv_icmp_ne (tgt := 71) hx hb dX12_madeOf_63 (by decide) (fun c6 => ?_) (fun c6 => ?_)
      · replace hf := (if_neg c6).symm.trans hf
        refine lv_iload_n hx hb dX12_madeOf_71 rfl (lv_at hl 2 rfl) ?_
        refine lv_iconst (v := 2) hx hb dX12_madeOf_72 (by decide) ?_
        refine lv_icmp_ne (tgt := 81) hx hb dX12_madeOf_73 (by decide) (fun c7 => ?_) (fun c7 => ?_)
        · replace hf := (if_neg c7).symm.trans hf
          refine lv_iload_n hx hb dX12_madeOf_81 rfl (lv_at hl 2 rfl) ?_
          refine lv_iconst (v := 3) hx hb dX12_madeOf_82 (by decide) ?_
          refine lv_icmp_ne (tgt := 105) hx hb dX12_madeOf_83 (by decide) (fun c8 => ?_) (fun c8 => ?_)
          · replace hf := (if_neg c8).symm.trans hf
            refine lv_iload_n hx hb dX12_madeOf_105 rfl (lv_at hl 3 rfl) ?_
            refine lv_iconst (v := 1) hx hb dX12_madeOf_106 (by decide) ?_
            refine lv_iadd hx hb dX12_madeOf_107 ?_
            refine lv_aload_n hx hb dX12_madeOf_108 rfl (lv_at hl 1 rfl) ?_
            refine va_get (C := RX12) (T := TX12) (N := 22) hx hb hw bfX120 hown hK hP 0 (gm_0 E g a) rfl 0 (by decide) (hw _ bw755) (fun _ h9 => h9) rfl dX12_madeOf_109 ?_
            obtain ⟨k9, hf⟩ := ck_some hf
            refine lv_irem hx hb dX12_madeOf_112 (nzB_nz k9) ?_
            exact xi_retS (fr := (fun r => r)) (fw := (fun r => wM E g a)) hx hb hr hlocks (Option.some.inj hf) hP hS dX12_madeOf_113
          · replace hf := (if_pos c8).symm.trans hf
            refine lv_iload_n hx hb dX12_madeOf_86 rfl (lv_at hl 3 rfl) ?_
            refine lv_iload_n hx hb dX12_madeOf_87 rfl (lv_at hl 4 rfl) ?_
            refine lv_isub hx hb dX12_madeOf_88 ?_
            refine lv_iload hx hb dX12_madeOf_89 (lv_at hl 5 rfl) ?_
            refine lv_iadd hx hb dX12_madeOf_91 ?_
            refine lv_aload_n hx hb dX12_madeOf_92 rfl (lv_at hl 1 rfl) ?_
            refine va_get (C := RX12) (T := TX12) (N := 22) hx hb hw bfX120 hown hK hP 0 (gm_0 E g a) rfl 0 (by decide) (hw _ bw755) (fun _ h9 => h9) rfl dX12_madeOf_93 ?_
            refine lv_iadd hx hb dX12_madeOf_96 ?_
            refine lv_aload_n hx hb dX12_madeOf_97 rfl (lv_at hl 1 rfl) ?_
            refine va_get (C := RX12) (T := TX12) (N := 22) hx hb hw bfX120 hown hK hP 0 (gm_0 E g a) rfl 0 (by decide) (hw _ bw755) (fun _ h9 => h9) rfl dX12_madeOf_98 ?_
            obtain ⟨k10, hf⟩ := ck_some hf
            refine lv_irem hx hb dX12_madeOf_101 (nzB_nz k10) ?_
            refine lv_goto (tgt := 113) hx hb dX12_madeOf_102 (by decide) ?_
            exact xi_retS (fr := (fun r => r)) (fw := (fun r => wM E g a)) hx hb hr hlocks (Option.some.inj hf) hP hS dX12_madeOf_113
        · replace hf := (if_pos c7).symm.trans hf
          refine lv_iload hx hb dX12_madeOf_76 (lv_at hl 0 rfl) ?_
          refine lv_goto (tgt := 113) hx hb dX12_madeOf_78 (by decide) ?_
          exact xi_retS (fr := (fun r => r)) (fw := (fun r => wM E g a)) hx hb hr hlocks (Option.some.inj hf) hP hS dX12_madeOf_113
      · replace hf := (if_pos c6).symm.trans hf
        refine lv_iload hx hb dX12_madeOf_66 (lv_at hl 7 rfl) ?_
        refine lv_goto (tgt := 113) hx hb dX12_madeOf_68 (by decide) ?_
        exact xi_retS (fr := (fun r => r)) (fw := (fun r => wM E g a)) hx hb hr hlocks (Option.some.inj hf) hP hS dX12_madeOf_113
    · replace hf := (if_pos c5).symm.trans hf
      refine lv_iload hx hb dX12_madeOf_56 (lv_at hl 6 rfl) ?_
      refine lv_goto (tgt := 113) hx hb dX12_madeOf_58 (by decide) ?_
      exact xi_retS (fr := (fun r => r)) (fw := (fun r => wM E g a)) hx hb hr hlocks (Option.some.inj hf) hP hS dX12_madeOf_113
  have B22 : ∀ (x1 : Int32) (x2 : Int32) (x3 : Int32) (x4 : Int32) (x5 : Int32) (s0 : Int32) (H : Heap) (locs : List Loc) (ls : Array Slot), va_P E.1 vwCl (wM E g a) H → va_S A s.heap H locs → lv_has ls 8 [(0, .ref (E.2.1 0)), (1, .int x1), (2, .int x2), (3, .int x3), (4, .int x4), (5, .int x5)] → f_X12_madeOf_22 g a x1 x2 x3 x4 x5 s0 = some res → W p l e ({ frames := 0, cells := 0, slots := 0, locals := 0 }) s m ([.ref (E.2.1 0), .int v1, .int v2, .int v3, .int v4] : List Value).toArray below meth c H locs 0 0 (MQ below ((xQi E res (wM E g a)) A) ([.ref (E.2.1 0), .int v1, .int v2, .int v3, .int v4] : List Value).toArray s 0 0 A) (F0 m 22 ls [.int s0]) := by
    intro x1 x2 x3 x4 x5 s0 H locs ls hP hS hl hf
    unfold f_X12_madeOf_22 at hf
    refine lv_istore (lv' := [(6, .int s0), (0, .ref (E.2.1 0)), (1, .int x1), (2, .int x2), (3, .int x3), (4, .int x4), (5, .int x5)]) hx hb dX12_madeOf_22 hl (by decide) rfl (fun ls hl => ?_)
    refine lv_iload hx hb dX12_madeOf_24 (lv_at hl 5 rfl) ?_
    refine lv_iload hx hb dX12_madeOf_26 (lv_at hl 6 rfl) ?_
    refine lv_icmp_ge (tgt := 36) hx hb dX12_madeOf_28 (by decide) (fun c3 => ?_) (fun c3 => ?_)
    · replace hf := (if_pos c3).symm.trans hf
      refine lv_iload hx hb dX12_madeOf_36 (lv_at hl 5 rfl) ?_
      refine lv_iload hx hb dX12_madeOf_38 (lv_at hl 0 rfl) ?_
      refine lv_icmp_le (tgt := 48) hx hb dX12_madeOf_40 (by decide) (fun c4 => ?_) (fun c4 => ?_)
      · replace hf := (if_pos c4).symm.trans hf
        refine lv_iload hx hb dX12_madeOf_48 (lv_at hl 5 rfl) ?_
        exact B50 x1 x2 x3 x4 x5 s0 x4 _ _ _ hP hS (lv_sub hl [1, 2, 3, 4, 5, 6, 0] rfl) hf
      · replace hf := (if_neg c4).symm.trans hf
        refine lv_iload hx hb dX12_madeOf_43 (lv_at hl 0 rfl) ?_
        refine lv_goto (tgt := 50) hx hb dX12_madeOf_45 (by decide) ?_
        exact B50 x1 x2 x3 x4 x5 s0 s0 _ _ _ hP hS (lv_sub hl [1, 2, 3, 4, 5, 6, 0] rfl) hf
    · replace hf := (if_neg c3).symm.trans hf
      refine lv_iload hx hb dX12_madeOf_31 (lv_at hl 6 rfl) ?_
      refine lv_goto (tgt := 50) hx hb dX12_madeOf_33 (by decide) ?_
      exact B50 x1 x2 x3 x4 x5 s0 x5 _ _ _ hP hS (lv_sub hl [1, 2, 3, 4, 5, 6, 0] rfl) hf
  have B10 : ∀ (x1 : Int32) (x2 : Int32) (x3 : Int32) (x4 : Int32) (s0 : Int32) (H : Heap) (locs : List Loc) (ls : Array Slot), va_P E.1 vwCl (wM E g a) H → va_S A s.heap H locs → lv_has ls 8 [(0, .ref (E.2.1 0)), (1, .int x1), (2, .int x2), (3, .int x3), (4, .int x4)] → f_X12_madeOf_10 g a x1 x2 x3 x4 s0 = some res → W p l e ({ frames := 0, cells := 0, slots := 0, locals := 0 }) s m ([.ref (E.2.1 0), .int v1, .int v2, .int v3, .int v4] : List Value).toArray below meth c H locs 0 0 (MQ below ((xQi E res (wM E g a)) A) ([.ref (E.2.1 0), .int v1, .int v2, .int v3, .int v4] : List Value).toArray s 0 0 A) (F0 m 10 ls [.int s0]) := by
    intro x1 x2 x3 x4 s0 H locs ls hP hS hl hf
    unfold f_X12_madeOf_10 at hf
    refine lv_istore (lv' := [(5, .int s0), (0, .ref (E.2.1 0)), (1, .int x1), (2, .int x2), (3, .int x3), (4, .int x4)]) hx hb dX12_madeOf_10 hl (by decide) rfl (fun ls hl => ?_)
    refine lv_iload_n hx hb dX12_madeOf_12 rfl (lv_at hl 3 rfl) ?_
    refine lv_iload_n hx hb dX12_madeOf_13 rfl (lv_at hl 4 rfl) ?_
    refine lv_icmp_le (tgt := 21) hx hb dX12_madeOf_14 (by decide) (fun c2 => ?_) (fun c2 => ?_)
    · replace hf := (if_pos c2).symm.trans hf
      refine lv_iload_n hx hb dX12_madeOf_21 rfl (lv_at hl 4 rfl) ?_
      exact B22 x1 x2 x3 x4 s0 x3 _ _ _ hP hS (lv_sub hl [1, 2, 3, 4, 5, 0] rfl) hf
    · replace hf := (if_neg c2).symm.trans hf
      refine lv_iload_n hx hb dX12_madeOf_17 rfl (lv_at hl 3 rfl) ?_
      refine lv_goto (tgt := 22) hx hb dX12_madeOf_18 (by decide) ?_
      exact B22 x1 x2 x3 x4 s0 x2 _ _ _ hP hS (lv_sub hl [1, 2, 3, 4, 5, 0] rfl) hf
  refine lv_iload_n hx hb dX12_madeOf_0 rfl (lv_at hl 2 rfl) ?_
  refine lv_iload_n hx hb dX12_madeOf_1 rfl (lv_at hl 3 rfl) ?_
  refine lv_icmp_ge (tgt := 9) hx hb dX12_madeOf_2 (by decide) (fun c1 => ?_) (fun c1 => ?_)
  · replace hf := (if_pos c1).symm.trans hf
    refine lv_iload_n hx hb dX12_madeOf_9 rfl (lv_at hl 3 rfl) ?_
    exact B10 v1 v2 v3 v4 v3 _ _ _ hP hS (lv_sub hl [0, 1, 2, 3, 4] rfl) hf
  · replace hf := (if_neg c1).symm.trans hf
    refine lv_iload_n hx hb dX12_madeOf_5 rfl (lv_at hl 2 rfl) ?_
    refine lv_goto (tgt := 10) hx hb dX12_madeOf_6 (by decide) ?_
    exact B10 v1 v2 v3 v4 v2 _ _ _ hP hS (lv_sub hl [0, 1, 2, 3, 4] rfl) hf
def f_X12_lays_2 (g : xG) : Nat → xA → Int32 → Int32 → Int32 → Option (xA)
  | 0, _, _, _, _ => none
  | n + 1, a, x1, x2, x3 => (if 27 ≤ x3 then some a else ck (nzB (g 0)) (ck (nzB (g 0)) (ck (nzB (g 0)) (ck (nzB (g 0)) (ck (nzB (g 0)) (ck (nzB (g 0)) (Option.bind (f_X12_madeOf g a x2 (x3 - x3 / (g 0) * (g 0)) ((x3 / (g 0)) - (x3 / (g 0)) / (g 0) * (g 0)) (((x3 / (g 0)) / (g 0)) - ((x3 / (g 0)) / (g 0)) / (g 0) * (g 0))) (fun u8 => ck (inB ((27 * x1) + x3) 189) (f_X12_lays_2 g n (upA a 4 (upd (a 4) (((27 * x1) + x3) : Int32).toNatClampNeg u8)) x1 x2 (x3 + 1))))))))))
theorem e_X12_lays_2 (g : xG) (n : Nat) (a : xA) (x1 : Int32) (x2 : Int32) (x3 : Int32) : f_X12_lays_2 g (n + 1) a x1 x2 x3 = (if 27 ≤ x3 then some a else ck (nzB (g 0)) (ck (nzB (g 0)) (ck (nzB (g 0)) (ck (nzB (g 0)) (ck (nzB (g 0)) (ck (nzB (g 0)) (Option.bind (f_X12_madeOf g a x2 (x3 - x3 / (g 0) * (g 0)) ((x3 / (g 0)) - (x3 / (g 0)) / (g 0) * (g 0)) (((x3 / (g 0)) / (g 0)) - ((x3 / (g 0)) / (g 0)) / (g 0) * (g 0))) (fun u8 => ck (inB ((27 * x1) + x3) 189) (f_X12_lays_2 g n (upA a 4 (upd (a 4) (((27 * x1) + x3) : Int32).toNatClampNeg u8)) x1 x2 (x3 + 1)))))))))) := rfl
def f_X12_lays (g : xG) (a : xA) (v1 : Int32) (v2 : Int32) : Option (xA) := f_X12_lays_2 g fu a v1 v2 0
set_option maxRecDepth 100000 in
set_option maxHeartbeats 40000000 in
theorem c_X12_lays (l : Launch) (E : xE) (g : xG) (a : xA) (v1 : Int32) (v2 : Int32) {res : xA} (hf : f_X12_lays g a v1 v2 = some res) : xM l E yX12_lays cX12_lays 4 none 1 27 [.ref (E.2.1 0), .int v1, .int v2] (wM E g a) (xQv E (wM E g res)) := by
  unfold f_X12_lays at hf
  refine xM_of (by decide) (Nat.le_of_ble_eq_true rfl) ?_
  intro p e s m below meth c A hx hb hr hml hts hown hlocks hA hD hP hK hN hS ls hl
  have hw : ∀ w ∈ BW, w.before _ s = true := fun w h => hts w (List.mem_cons_of_mem _ h)
  have C0 : xCtx E p m c cX12_lays 4 s _ RX12 A yX12_lays cX12_lays 4 none := ⟨hx, hb, hml, hown, hts, hA, hK, hN⟩
  have hl : lv_has ls 4 [(0, .ref (E.2.1 0)), (1, .int v1), (2, .int v2)] := hl
  have B2 : ∀ (n : Nat) (a : xA) (x1 : Int32) (x2 : Int32) (x3 : Int32) (H : Heap) (locs : List Loc) (ls : Array Slot), va_P E.1 vwCl (wM E g a) H → va_S A s.heap H locs → lv_has ls 4 [(0, .ref (E.2.1 0)), (1, .int x1), (2, .int x2), (3, .int x3)] → f_X12_lays_2 g n a x1 x2 x3 = some res → W p l e ({ frames := 1, cells := 0, slots := 0, locals := 27 }) s m ([.ref (E.2.1 0), .int v1, .int v2] : List Value).toArray below meth c H locs 0 0 (MQ below ((xQv E (wM E g res)) A) ([.ref (E.2.1 0), .int v1, .int v2] : List Value).toArray s 0 0 A) (F0 m 2 ls []) := by
    intro n
    induction n with
    | zero => intro a x1 x2 x3 H locs ls hP hS hl hf; exact absurd (show (none : Option (xA)) = some res from hf) (by intro h; cases h)
    | succ n ih =>
      intro a x1 x2 x3 H locs ls hP hS hl hf
      replace hf := (e_X12_lays_2 g n a x1 x2 x3).symm.trans hf
      refine lv_iload_n hx hb dX12_lays_2 rfl (lv_at hl 3 rfl) ?_
      refine lv_bipush (v := 27) hx hb dX12_lays_3 (by decide) ?_
      refine lv_icmp_ge (tgt := 63) hx hb dX12_lays_5 (by decide) (fun c1 => ?_) (fun c1 => ?_)
      · replace hf := (if_pos c1).symm.trans hf
        exact xv_retS (fw := (fun r => wM E g r)) hx hb hr hlocks (Option.some.inj hf) hP hS dX12_lays_63
      · replace hf := (if_neg c1).symm.trans hf
        refine lv_aload_n hx hb dX12_lays_8 rfl (lv_at hl 0 rfl) ?_
        refine va_get (C := RX12) (T := TX12) (N := 22) hx hb hw bfX120 hown hK hP 0 (gm_0 E g a) rfl 6 (by decide) (hw _ bw759) (fun _ h9 => h9) rfl dX12_lays_9 ?_
        refine lv_bipush (v := 27) hx hb dX12_lays_12 (by decide) ?_
        refine lv_iload_n hx hb dX12_lays_14 rfl (lv_at hl 1 rfl) ?_
        refine lv_imul hx hb dX12_lays_15 ?_
        refine lv_iload_n hx hb dX12_lays_16 rfl (lv_at hl 3 rfl) ?_
        refine lv_iadd hx hb dX12_lays_17 ?_
        refine lv_aload_n hx hb dX12_lays_18 rfl (lv_at hl 0 rfl) ?_
        refine lv_iload_n hx hb dX12_lays_19 rfl (lv_at hl 2 rfl) ?_
        refine lv_iload_n hx hb dX12_lays_20 rfl (lv_at hl 3 rfl) ?_
        refine lv_aload_n hx hb dX12_lays_21 rfl (lv_at hl 0 rfl) ?_
        refine va_get (C := RX12) (T := TX12) (N := 22) hx hb hw bfX120 hown hK hP 0 (gm_0 E g a) rfl 0 (by decide) (hw _ bw755) (fun _ h9 => h9) rfl dX12_lays_22 ?_
        obtain ⟨k2, hf⟩ := ck_some hf
        refine lv_irem hx hb dX12_lays_25 (nzB_nz k2) ?_
        refine lv_iload_n hx hb dX12_lays_26 rfl (lv_at hl 3 rfl) ?_
        refine lv_aload_n hx hb dX12_lays_27 rfl (lv_at hl 0 rfl) ?_
        refine va_get (C := RX12) (T := TX12) (N := 22) hx hb hw bfX120 hown hK hP 0 (gm_0 E g a) rfl 0 (by decide) (hw _ bw755) (fun _ h9 => h9) rfl dX12_lays_28 ?_
        obtain ⟨k3, hf⟩ := ck_some hf
        refine lv_idiv hx hb dX12_lays_31 (nzB_nz k3) ?_
        refine lv_aload_n hx hb dX12_lays_32 rfl (lv_at hl 0 rfl) ?_
        refine va_get (C := RX12) (T := TX12) (N := 22) hx hb hw bfX120 hown hK hP 0 (gm_0 E g a) rfl 0 (by decide) (hw _ bw755) (fun _ h9 => h9) rfl dX12_lays_33 ?_
        obtain ⟨k4, hf⟩ := ck_some hf
        refine lv_irem hx hb dX12_lays_36 (nzB_nz k4) ?_
        refine lv_iload_n hx hb dX12_lays_37 rfl (lv_at hl 3 rfl) ?_
        refine lv_aload_n hx hb dX12_lays_38 rfl (lv_at hl 0 rfl) ?_
        refine va_get (C := RX12) (T := TX12) (N := 22) hx hb hw bfX120 hown hK hP 0 (gm_0 E g a) rfl 0 (by decide) (hw _ bw755) (fun _ h9 => h9) rfl dX12_lays_39 ?_
        obtain ⟨k5, hf⟩ := ck_some hf
        refine lv_idiv hx hb dX12_lays_42 (nzB_nz k5) ?_
        refine lv_aload_n hx hb dX12_lays_43 rfl (lv_at hl 0 rfl) ?_
        refine va_get (C := RX12) (T := TX12) (N := 22) hx hb hw bfX120 hown hK hP 0 (gm_0 E g a) rfl 0 (by decide) (hw _ bw755) (fun _ h9 => h9) rfl dX12_lays_44 ?_
        obtain ⟨k6, hf⟩ := ck_some hf
        refine lv_idiv hx hb dX12_lays_47 (nzB_nz k6) ?_
        refine lv_aload_n hx hb dX12_lays_48 rfl (lv_at hl 0 rfl) ?_
        refine va_get (C := RX12) (T := TX12) (N := 22) hx hb hw bfX120 hown hK hP 0 (gm_0 E g a) rfl 0 (by decide) (hw _ bw755) (fun _ h9 => h9) rfl dX12_lays_49 ?_
        obtain ⟨k7, hf⟩ := ck_some hf
        refine lv_irem hx hb dX12_lays_52 (nzB_nz k7) ?_
        obtain ⟨u8, e9, hf⟩ := bd_some hf
        refine xci (xRunV (rest := [.int ((27 * x1) + x3), .ref (E.2.1 4)]) (As := [.int x2, .int (x3 - x3 / (g 0) * (g 0)), .int ((x3 / (g 0)) - (x3 / (g 0)) / (g 0) * (g 0)), .int (((x3 / (g 0)) / (g 0)) - ((x3 / (g 0)) / (g 0)) / (g 0) * (g 0))]) (C := RX12) (k := 4) C0 (c_X12_madeOf l E g a x2 (x3 - x3 / (g 0) * (g 0)) ((x3 / (g 0)) - (x3 / (g 0)) / (g 0) * (g 0)) (((x3 / (g 0)) / (g 0)) - ((x3 / (g 0)) / (g 0)) / (g 0) * (g 0)) e9) bw803 bw805 bw778 bw806 bw807 hd_X12_madeOf ⟨Nat.le_of_ble_eq_true rfl, Nat.le_of_ble_eq_true rfl⟩ hP (wM_D hD) hS (va_recv hK hP (ci := 12) rfl (gm_0 E g a)) rfl hl.1 rfl (Nat.le_of_ble_eq_true rfl) dX12_lays_53 ⟨Nat.zero_le _, Nat.zero_le _⟩) hS (fun H locs hP hS => ?_)
        obtain ⟨k10, hf⟩ := ck_some hf
        refine va_iast hx hb hK hP (wM_D hD) hS 4 0 (gm_4 E g a) rfl (inB_in k10) dX12_lays_56 (fun H locs hP _ hS => ?_)
        have hP := xP_eq (sm_a4 E g a (upd (a 4) (((27 * x1) + x3) : Int32).toNatClampNeg u8)) hP
        refine lv_iinc (v := (x3 + 1)) (lv' := [(3, .int (x3 + 1)), (0, .ref (E.2.1 0)), (1, .int x1), (2, .int x2)]) hx hb dX12_lays_57 hl (k := 3) rfl rfl (by decide) rfl (fun ls hl => ?_)
        refine lv_goto (tgt := 2) hx hb dX12_lays_60 (by decide) ?_
        exact ih (upA a 4 (upd (a 4) (((27 * x1) + x3) : Int32).toNatClampNeg u8)) x1 x2 (x3 + 1) _ _ _ hP hS (lv_sub hl [1, 2, 3, 0] rfl) hf
  refine lv_iconst (v := 0) hx hb dX12_lays_0 (by decide) ?_
  refine lv_istore_n (lv' := [(3, .int 0), (0, .ref (E.2.1 0)), (1, .int v1), (2, .int v2)]) hx hb dX12_lays_1 rfl hl (by decide) rfl (fun ls hl => ?_)
  exact B2 fu a v1 v2 0 _ _ _ hP hS (lv_sub hl [1, 2, 3, 0] rfl) hf
def f_X12_make_60 (g : xG) (a : xA) (x1 : Int32) (s0 : Int32) : Option (Int32 × xG × xA) := Option.bind (f_X12_takes g a s0) (fun u6 => Option.bind (f_X12_lays u6.2.1 u6.2.2 u6.1 x1) (fun u8 => some (u6.1, u6.2.1, u8)))
def f_X12_make_28 (g : xG) (a : xA) (x1 : Int32) (s0 : Int32) : Option (Int32 × xG × xA) := (if ((upd g 8 s0) 8) ≤ 0 then (if 2 ≤ x1 then (if 4 ≤ x1 then f_X12_make_60 (upd g 8 s0) a x1 1 else f_X12_make_60 (upd g 8 s0) a x1 3) else f_X12_make_60 (upd g 8 s0) a x1 2) else some (0, (upd g 8 s0), a))
def f_X12_make (g : xG) (a : xA) (v1 : Int32) : Option (Int32 × xG × xA) := (if (t_X12_in g a v1 0 4) = 0 then f_X12_make_28 g a v1 1 else (if (g 2) = 6 then f_X12_make_28 g a v1 2 else f_X12_make_28 g a v1 0))
set_option maxRecDepth 100000 in
set_option maxHeartbeats 40000000 in
theorem c_X12_make (l : Launch) (E : xE) (g : xG) (a : xA) (v1 : Int32) {res : Int32 × xG × xA} (hf : f_X12_make g a v1 = some res) : xM l E yX12_make cX12_make 3 (some .int) 2 50 [.ref (E.2.1 0), .int v1] (wM E g a) (xQi E res.1 (wM E res.2.1 res.2.2)) := by
  unfold f_X12_make at hf
  refine xM_of (by decide) (Nat.le_of_ble_eq_true rfl) ?_
  intro p e s m below meth c A hx hb hr hml hts hown hlocks hA hD hP hK hN hS ls hl
  have hw : ∀ w ∈ BW, w.before _ s = true := fun w h => hts w (List.mem_cons_of_mem _ h)
  have C0 : xCtx E p m c cX12_make 3 s _ RX12 A yX12_make cX12_make 3 (some .int) := ⟨hx, hb, hml, hown, hts, hA, hK, hN⟩
  have hl : lv_has ls 3 [(0, .ref (E.2.1 0)), (1, .int v1)] := hl
  have B60 : ∀ (g : xG) (a : xA) (x1 : Int32) (s0 : Int32) (H : Heap) (locs : List Loc) (ls : Array Slot), va_P E.1 vwCl (wM E g a) H → va_S A s.heap H locs → lv_has ls 3 [(0, .ref (E.2.1 0)), (1, .int x1)] → f_X12_make_60 g a x1 s0 = some res → W p l e ({ frames := 2, cells := 0, slots := 0, locals := 50 }) s m ([.ref (E.2.1 0), .int v1] : List Value).toArray below meth c H locs 0 0 (MQ below ((xQi E res.1 (wM E res.2.1 res.2.2)) A) ([.ref (E.2.1 0), .int v1] : List Value).toArray s 0 0 A) (F0 m 60 ls [.int s0, .ref (E.2.1 0)]) := by
    intro g a x1 s0 H locs ls hP hS hl hf
    unfold f_X12_make_60 at hf
    obtain ⟨u6, e7, hf⟩ := bd_some hf
    refine xci (xRunV (rest := []) (As := [.int s0]) (C := RX12) (k := 1) C0 (c_X12_takes l E g a s0 e7) bw798 bw800 bw778 bw801 bw802 hd_X12_takes ⟨Nat.le_of_ble_eq_true rfl, Nat.le_of_ble_eq_true rfl⟩ hP (wM_D hD) hS (va_recv hK hP (ci := 12) rfl (gm_0 E g a)) rfl hl.1 rfl (Nat.le_of_ble_eq_true rfl) dX12_make_60 ⟨Nat.zero_le _, Nat.zero_le _⟩) hS (fun H locs hP hS => ?_)
    refine lv_istore_n (lv' := [(2, .int u6.1), (0, .ref (E.2.1 0)), (1, .int x1)]) hx hb dX12_make_63 rfl hl (by decide) rfl (fun ls hl => ?_)
    refine lv_aload_n hx hb dX12_make_64 rfl (lv_at hl 1 rfl) ?_
    refine lv_iload_n hx hb dX12_make_65 rfl (lv_at hl 0 rfl) ?_
    refine lv_iload_n hx hb dX12_make_66 rfl (lv_at hl 2 rfl) ?_
    obtain ⟨u8, e9, hf⟩ := bd_some hf
    refine xcv (xRunV (rest := []) (As := [.int u6.1, .int x1]) (C := RX12) (k := 2) C0 (c_X12_lays l E u6.2.1 u6.2.2 u6.1 x1 e9) bw804 bw809 bw778 bw810 bw811 hd_X12_lays ⟨Nat.le_of_ble_eq_true rfl, Nat.le_of_ble_eq_true rfl⟩ hP (wM_D hD) hS (va_recv hK hP (ci := 12) rfl (gm_0 E u6.2.1 u6.2.2)) rfl hl.1 rfl (Nat.le_of_ble_eq_true rfl) dX12_make_67 ⟨Nat.zero_le _, Nat.zero_le _⟩) hS (fun H locs hP hS => ?_)
    refine lv_iload_n hx hb dX12_make_70 rfl (lv_at hl 0 rfl) ?_
    exact xi_retS (fr := (fun r => r.1)) (fw := (fun r => wM E r.2.1 r.2.2)) hx hb hr hlocks (Option.some.inj hf) hP hS dX12_make_71
  have B28 : ∀ (g : xG) (a : xA) (x1 : Int32) (s0 : Int32) (H : Heap) (locs : List Loc) (ls : Array Slot), va_P E.1 vwCl (wM E g a) H → va_S A s.heap H locs → lv_has ls 3 [(0, .ref (E.2.1 0)), (1, .int x1)] → f_X12_make_28 g a x1 s0 = some res → W p l e ({ frames := 2, cells := 0, slots := 0, locals := 50 }) s m ([.ref (E.2.1 0), .int v1] : List Value).toArray below meth c H locs 0 0 (MQ below ((xQi E res.1 (wM E res.2.1 res.2.2)) A) ([.ref (E.2.1 0), .int v1] : List Value).toArray s 0 0 A) (F0 m 28 ls [.int s0, .ref (E.2.1 0)]) := by
    intro g a x1 s0 H locs ls hP hS hl hf
    unfold f_X12_make_28 at hf
    refine va_put (v := .int s0) (ty := .int) (C := RX12) (T := TX12) (N := 22) hx hb hw bfX120 tyX12 tyX12_ok nmX12 hown hK hP (wM_D hD) hS 0 (gm_0 E g a) rfl 21 (by decide) (hw _ bw771) (fun _ h9 => h9) rfl (by decide +kernel) rfl rfl (Nat.le_of_ble_eq_true rfl) dX12_make_28 (fun H locs hP _ hS => ?_)
    have hP := xP_eq (sm_g8 E g a s0) hP
    refine lv_aload_n hx hb dX12_make_31 rfl (lv_at hl 0 rfl) ?_
    refine va_get (C := RX12) (T := TX12) (N := 22) hx hb hw bfX120 hown hK hP 0 (gm_0 E (upd g 8 s0) a) rfl 21 (by decide) (hw _ bw771) (fun _ h9 => h9) rfl dX12_make_32 ?_
    refine lv_if_le (tgt := 40) hx hb dX12_make_35 (by decide) (fun c3 => ?_) (fun c3 => ?_)
    · replace hf := (if_pos c3).symm.trans hf
      refine lv_aload_n hx hb dX12_make_40 rfl (lv_at hl 0 rfl) ?_
      refine lv_iload_n hx hb dX12_make_41 rfl (lv_at hl 1 rfl) ?_
      refine lv_iconst (v := 2) hx hb dX12_make_42 (by decide) ?_
      refine lv_icmp_ge (tgt := 50) hx hb dX12_make_43 (by decide) (fun c4 => ?_) (fun c4 => ?_)
      · replace hf := (if_pos c4).symm.trans hf
        refine lv_iload_n hx hb dX12_make_50 rfl (lv_at hl 1 rfl) ?_
        refine lv_iconst (v := 4) hx hb dX12_make_51 (by decide) ?_
        refine lv_icmp_ge (tgt := 59) hx hb dX12_make_52 (by decide) (fun c5 => ?_) (fun c5 => ?_)
        · replace hf := (if_pos c5).symm.trans hf
          refine lv_iconst (v := 1) hx hb dX12_make_59 (by decide) ?_
          exact B60 (upd g 8 s0) a x1 1 _ _ _ hP hS (lv_sub hl [0, 1] rfl) hf
        · replace hf := (if_neg c5).symm.trans hf
          refine lv_iconst (v := 3) hx hb dX12_make_55 (by decide) ?_
          refine lv_goto (tgt := 60) hx hb dX12_make_56 (by decide) ?_
          exact B60 (upd g 8 s0) a x1 3 _ _ _ hP hS (lv_sub hl [0, 1] rfl) hf
      · replace hf := (if_neg c4).symm.trans hf
        refine lv_iconst (v := 2) hx hb dX12_make_46 (by decide) ?_
        refine lv_goto (tgt := 60) hx hb dX12_make_47 (by decide) ?_
        exact B60 (upd g 8 s0) a x1 2 _ _ _ hP hS (lv_sub hl [0, 1] rfl) hf
    · replace hf := (if_neg c3).symm.trans hf
      refine lv_iconst (v := 0) hx hb dX12_make_38 (by decide) ?_
      exact xi_retS (fr := (fun r => r.1)) (fw := (fun r => wM E r.2.1 r.2.2)) hx hb hr hlocks (Option.some.inj hf) hP hS dX12_make_39
  refine lv_aload_n hx hb dX12_make_0 rfl (lv_at hl 0 rfl) ?_
  refine lv_iload_n hx hb dX12_make_1 rfl (lv_at hl 1 rfl) ?_
  refine lv_iconst (v := 0) hx hb dX12_make_2 (by decide) ?_
  refine lv_iconst (v := 4) hx hb dX12_make_3 (by decide) ?_
  refine xci (xRunS (rest := [.ref (E.2.1 0)]) (As := [.int v1, .int 0, .int 4]) (k := 3) C0 (c_X12_in l E g a v1 0 4) bw772 bw785 bw778 bw786 hd_X12_in ⟨Nat.le_of_ble_eq_true rfl, Nat.le_of_ble_eq_true rfl⟩ hP (wM_D hD) hS rfl hl.1 rfl (Nat.le_of_ble_eq_true rfl) dX12_make_4 ⟨Nat.zero_le _, Nat.zero_le _⟩) hS (fun H locs hP hS => ?_)
  refine lv_if_ne (tgt := 14) hx hb dX12_make_7 (by decide) (fun c1 => ?_) (fun c1 => ?_)
  · replace hf := (if_neg c1).symm.trans hf
    refine lv_aload_n hx hb dX12_make_14 rfl (lv_at hl 0 rfl) ?_
    refine va_get (C := RX12) (T := TX12) (N := 22) hx hb hw bfX120 hown hK hP 0 (gm_0 E g a) rfl 4 (by decide) (hw _ bw783) (fun _ h9 => h9) rfl dX12_make_15 ?_
    refine lv_bipush (v := 6) hx hb dX12_make_18 (by decide) ?_
    refine lv_icmp_ne (tgt := 27) hx hb dX12_make_20 (by decide) (fun c2 => ?_) (fun c2 => ?_)
    · replace hf := (if_neg c2).symm.trans hf
      refine lv_iconst (v := 0) hx hb dX12_make_27 (by decide) ?_
      exact B28 g a v1 0 _ _ _ hP hS (lv_sub hl [0, 1] rfl) hf
    · replace hf := (if_pos c2).symm.trans hf
      refine lv_iconst (v := 2) hx hb dX12_make_23 (by decide) ?_
      refine lv_goto (tgt := 28) hx hb dX12_make_24 (by decide) ?_
      exact B28 g a v1 2 _ _ _ hP hS (lv_sub hl [0, 1] rfl) hf
  · replace hf := (if_pos c1).symm.trans hf
    refine lv_iconst (v := 1) hx hb dX12_make_10 (by decide) ?_
    refine lv_goto (tgt := 28) hx hb dX12_make_11 (by decide) ?_
    exact B28 g a v1 1 _ _ _ hP hS (lv_sub hl [0, 1] rfl) hf
def f_X12_isOperation (g : xG) (a : xA) (v1 : Int32) : Option (Int32) := ck (boB (t_X12_in g a v1 0 ((g 2) - 1))) (some (t_X12_in g a v1 0 ((g 2) - 1)))
set_option maxRecDepth 100000 in
set_option maxHeartbeats 40000000 in
theorem c_X12_isOperation (l : Launch) (E : xE) (g : xG) (a : xA) (v1 : Int32) {res : Int32} (hf : f_X12_isOperation g a v1 = some res) : xM l E yX12_isOperation cX12_isOperation 2 (some .boolean) 1 22 [.ref (E.2.1 0), .int v1] (wM E g a) (xQi E res (wM E g a)) := by
  unfold f_X12_isOperation at hf
  refine xM_of (by decide) (Nat.le_of_ble_eq_true rfl) ?_
  intro p e s m below meth c A hx hb hr hml hts hown hlocks hA hD hP hK hN hS ls hl
  have hw : ∀ w ∈ BW, w.before _ s = true := fun w h => hts w (List.mem_cons_of_mem _ h)
  have C0 : xCtx E p m c cX12_isOperation 2 s _ RX12 A yX12_isOperation cX12_isOperation 2 (some .boolean) := ⟨hx, hb, hml, hown, hts, hA, hK, hN⟩
  have hl : lv_has ls 2 [(0, .ref (E.2.1 0)), (1, .int v1)] := hl
  refine lv_iload_n hx hb dX12_isOperation_0 rfl (lv_at hl 1 rfl) ?_
  refine lv_iconst (v := 0) hx hb dX12_isOperation_1 (by decide) ?_
  refine lv_aload_n hx hb dX12_isOperation_2 rfl (lv_at hl 0 rfl) ?_
  refine va_get (C := RX12) (T := TX12) (N := 22) hx hb hw bfX120 hown hK hP 0 (gm_0 E g a) rfl 4 (by decide) (hw _ bw783) (fun _ h9 => h9) rfl dX12_isOperation_3 ?_
  refine lv_iconst (v := 1) hx hb dX12_isOperation_6 (by decide) ?_
  refine lv_isub hx hb dX12_isOperation_7 ?_
  refine xci (xRunS (rest := []) (As := [.int v1, .int 0, .int ((g 2) - 1)]) (k := 3) C0 (c_X12_in l E g a v1 0 ((g 2) - 1)) bw772 bw785 bw778 bw786 hd_X12_in ⟨Nat.le_of_ble_eq_true rfl, Nat.le_of_ble_eq_true rfl⟩ hP (wM_D hD) hS rfl hl.1 rfl (Nat.le_of_ble_eq_true rfl) dX12_isOperation_8 ⟨Nat.zero_le _, Nat.zero_le _⟩) hS (fun H locs hP hS => ?_)
  obtain ⟨k1, hf⟩ := ck_some hf
  exact xz_retS (fr := (fun r => r)) (fw := (fun r => wM E g a)) hx hb hr hlocks (Option.some.inj hf) (boB_bo k1) hP hS dX12_isOperation_11
def f_X12_answers_64 (g : xG) (a : xA) (x1 : Int32) (x2 : Int32) (x3 : Int32) (s0 : Int32) : Option (Int32 × xG × xA) := (if ((upd g 8 s0) 8) ≤ 0 then ck (inB ((27 * x1) + x2) 189) (ck (inB ((27 * x1) + x2) 189) (some ((a 4 (((27 * x1) + x2) : Int32).toNatClampNeg), (upd g 8 s0), (upA a 4 (upd (a 4) (((27 * x1) + x2) : Int32).toNatClampNeg x3))))) else some (0, (upd g 8 s0), a))
def f_X12_answers_29 (g : xG) (a : xA) (x1 : Int32) (x2 : Int32) (x3 : Int32) (s0 : Int32) (s3 : Int32) (s4 : Int32) : Option (Int32 × xG × xA) := ck (inB s0 6) (Option.bind (f_X12_power g a (a 3 (s0 : Int32).toNatClampNeg)) (fun u8 => (if (t_X12_in g a s4 s3 (u8 - 1)) = 0 then f_X12_answers_64 g a x1 x2 x3 1 else (if (t_X12_in g a x3 0 ((g 0) - 1)) = 0 then f_X12_answers_64 g a x1 x2 x3 2 else f_X12_answers_64 g a x1 x2 x3 0))))
def f_X12_answers (g : xG) (a : xA) (v1 : Int32) (v2 : Int32) (v3 : Int32) : Option (Int32 × xG × xA) := Option.bind (f_X12_isOperation g a v1) (fun u1 => (if u1 = 0 then f_X12_answers_64 g a v1 v2 v3 1 else Option.bind (f_X12_isOperation g a v1) (fun u4 => (if u4 = 0 then f_X12_answers_29 g a v1 v2 v3 0 0 v2 else f_X12_answers_29 g a v1 v2 v3 v1 0 v2))))
set_option maxRecDepth 100000 in
set_option maxHeartbeats 40000000 in
theorem c_X12_answers (l : Launch) (E : xE) (g : xG) (a : xA) (v1 : Int32) (v2 : Int32) (v3 : Int32) {res : Int32 × xG × xA} (hf : f_X12_answers g a v1 v2 v3 = some res) : xM l E yX12_answers cX12_answers 5 (some .int) 2 43 [.ref (E.2.1 0), .int v1, .int v2, .int v3] (wM E g a) (xQi E res.1 (wM E res.2.1 res.2.2)) := by
  unfold f_X12_answers at hf
  refine xM_of (by decide) (Nat.le_of_ble_eq_true rfl) ?_
  intro p e s m below meth c A hx hb hr hml hts hown hlocks hA hD hP hK hN hS ls hl
  have hw : ∀ w ∈ BW, w.before _ s = true := fun w h => hts w (List.mem_cons_of_mem _ h)
  have C0 : xCtx E p m c cX12_answers 5 s _ RX12 A yX12_answers cX12_answers 5 (some .int) := ⟨hx, hb, hml, hown, hts, hA, hK, hN⟩
  have hl : lv_has ls 5 [(0, .ref (E.2.1 0)), (1, .int v1), (2, .int v2), (3, .int v3)] := hl
  have B64 : ∀ (g : xG) (a : xA) (x1 : Int32) (x2 : Int32) (x3 : Int32) (s0 : Int32) (H : Heap) (locs : List Loc) (ls : Array Slot), va_P E.1 vwCl (wM E g a) H → va_S A s.heap H locs → lv_has ls 5 [(0, .ref (E.2.1 0)), (1, .int x1), (2, .int x2), (3, .int x3)] → f_X12_answers_64 g a x1 x2 x3 s0 = some res → W p l e ({ frames := 2, cells := 0, slots := 0, locals := 43 }) s m ([.ref (E.2.1 0), .int v1, .int v2, .int v3] : List Value).toArray below meth c H locs 0 0 (MQ below ((xQi E res.1 (wM E res.2.1 res.2.2)) A) ([.ref (E.2.1 0), .int v1, .int v2, .int v3] : List Value).toArray s 0 0 A) (F0 m 64 ls [.int s0, .ref (E.2.1 0)]) := by
    intro g a x1 x2 x3 s0 H locs ls hP hS hl hf
    unfold f_X12_answers_64 at hf
    refine va_put (v := .int s0) (ty := .int) (C := RX12) (T := TX12) (N := 22) hx hb hw bfX120 tyX12 tyX12_ok nmX12 hown hK hP (wM_D hD) hS 0 (gm_0 E g a) rfl 21 (by decide) (hw _ bw771) (fun _ h9 => h9) rfl (by decide +kernel) rfl rfl (Nat.le_of_ble_eq_true rfl) dX12_answers_64 (fun H locs hP _ hS => ?_)
    have hP := xP_eq (sm_g8 E g a s0) hP
    refine lv_aload_n hx hb dX12_answers_67 rfl (lv_at hl 0 rfl) ?_
    refine va_get (C := RX12) (T := TX12) (N := 22) hx hb hw bfX120 hown hK hP 0 (gm_0 E (upd g 8 s0) a) rfl 21 (by decide) (hw _ bw771) (fun _ h9 => h9) rfl dX12_answers_68 ?_
    refine lv_if_le (tgt := 76) hx hb dX12_answers_71 (by decide) (fun c12 => ?_) (fun c12 => ?_)
    · replace hf := (if_pos c12).symm.trans hf
      refine lv_aload_n hx hb dX12_answers_76 rfl (lv_at hl 0 rfl) ?_
      refine va_get (C := RX12) (T := TX12) (N := 22) hx hb hw bfX120 hown hK hP 0 (gm_0 E (upd g 8 s0) a) rfl 6 (by decide) (hw _ bw759) (fun _ h9 => h9) rfl dX12_answers_77 ?_
      refine lv_bipush (v := 27) hx hb dX12_answers_80 (by decide) ?_
      refine lv_iload_n hx hb dX12_answers_82 rfl (lv_at hl 1 rfl) ?_
      refine lv_imul hx hb dX12_answers_83 ?_
      refine lv_iload_n hx hb dX12_answers_84 rfl (lv_at hl 2 rfl) ?_
      refine lv_iadd hx hb dX12_answers_85 ?_
      obtain ⟨k13, hf⟩ := ck_some hf
      refine va_iald hx hb hK hP 4 0 (gm_4 E (upd g 8 s0) a) rfl (inB_in k13) dX12_answers_86 ?_
      refine lv_istore (lv' := [(4, .int (a 4 (((27 * x1) + x2) : Int32).toNatClampNeg)), (0, .ref (E.2.1 0)), (1, .int x1), (2, .int x2), (3, .int x3)]) hx hb dX12_answers_87 hl (by decide) rfl (fun ls hl => ?_)
      refine lv_aload_n hx hb dX12_answers_89 rfl (lv_at hl 1 rfl) ?_
      refine va_get (C := RX12) (T := TX12) (N := 22) hx hb hw bfX120 hown hK hP 0 (gm_0 E (upd g 8 s0) a) rfl 6 (by decide) (hw _ bw759) (fun _ h9 => h9) rfl dX12_answers_90 ?_
      refine lv_bipush (v := 27) hx hb dX12_answers_93 (by decide) ?_
      refine lv_iload_n hx hb dX12_answers_95 rfl (lv_at hl 2 rfl) ?_
      refine lv_imul hx hb dX12_answers_96 ?_
      refine lv_iload_n hx hb dX12_answers_97 rfl (lv_at hl 3 rfl) ?_
      refine lv_iadd hx hb dX12_answers_98 ?_
      refine lv_iload_n hx hb dX12_answers_99 rfl (lv_at hl 4 rfl) ?_
      obtain ⟨k14, hf⟩ := ck_some hf
      refine va_iast hx hb hK hP (wM_D hD) hS 4 0 (gm_4 E (upd g 8 s0) a) rfl (inB_in k14) dX12_answers_100 (fun H locs hP _ hS => ?_)
      have hP := xP_eq (sm_a4 E (upd g 8 s0) a (upd (a 4) (((27 * x1) + x2) : Int32).toNatClampNeg x3)) hP
      refine lv_iload hx hb dX12_answers_101 (lv_at hl 0 rfl) ?_
      exact xi_retS (fr := (fun r => r.1)) (fw := (fun r => wM E r.2.1 r.2.2)) hx hb hr hlocks (Option.some.inj hf) hP hS dX12_answers_103
    · replace hf := (if_neg c12).symm.trans hf
      refine lv_iconst (v := 0) hx hb dX12_answers_74 (by decide) ?_
      exact xi_retS (fr := (fun r => r.1)) (fw := (fun r => wM E r.2.1 r.2.2)) hx hb hr hlocks (Option.some.inj hf) hP hS dX12_answers_75
  have B29 : ∀ (g : xG) (a : xA) (x1 : Int32) (x2 : Int32) (x3 : Int32) (s0 : Int32) (s3 : Int32) (s4 : Int32) (H : Heap) (locs : List Loc) (ls : Array Slot), va_P E.1 vwCl (wM E g a) H → va_S A s.heap H locs → lv_has ls 5 [(0, .ref (E.2.1 0)), (1, .int x1), (2, .int x2), (3, .int x3)] → f_X12_answers_29 g a x1 x2 x3 s0 s3 s4 = some res → W p l e ({ frames := 2, cells := 0, slots := 0, locals := 43 }) s m ([.ref (E.2.1 0), .int v1, .int v2, .int v3] : List Value).toArray below meth c H locs 0 0 (MQ below ((xQi E res.1 (wM E res.2.1 res.2.2)) A) ([.ref (E.2.1 0), .int v1, .int v2, .int v3] : List Value).toArray s 0 0 A) (F0 m 29 ls [.int s0, .ref (E.2.1 3), .ref (E.2.1 0), .int s3, .int s4, .ref (E.2.1 0)]) := by
    intro g a x1 x2 x3 s0 s3 s4 H locs ls hP hS hl hf
    unfold f_X12_answers_29 at hf
    obtain ⟨k7, hf⟩ := ck_some hf
    refine va_iald hx hb hK hP 3 0 (gm_3 E g a) rfl (inB_in k7) dX12_answers_29 ?_
    obtain ⟨u8, e9, hf⟩ := bd_some hf
    refine xci (xRunV (rest := [.int s3, .int s4, .ref (E.2.1 0)]) (As := [.int (a 3 (s0 : Int32).toNatClampNeg)]) (C := RX12) (k := 1) C0 (c_X12_power l E g a (a 3 (s0 : Int32).toNatClampNeg) e9) bw773 bw775 bw778 bw776 bw777 hd_X12_power ⟨Nat.le_of_ble_eq_true rfl, Nat.le_of_ble_eq_true rfl⟩ hP (wM_D hD) hS (va_recv hK hP (ci := 12) rfl (gm_0 E g a)) rfl hl.1 rfl (Nat.le_of_ble_eq_true rfl) dX12_answers_30 ⟨Nat.zero_le _, Nat.zero_le _⟩) hS (fun H locs hP hS => ?_)
    refine lv_iconst (v := 1) hx hb dX12_answers_33 (by decide) ?_
    refine lv_isub hx hb dX12_answers_34 ?_
    refine xci (xRunS (rest := [.ref (E.2.1 0)]) (As := [.int s4, .int s3, .int (u8 - 1)]) (k := 3) C0 (c_X12_in l E g a s4 s3 (u8 - 1)) bw772 bw785 bw778 bw786 hd_X12_in ⟨Nat.le_of_ble_eq_true rfl, Nat.le_of_ble_eq_true rfl⟩ hP (wM_D hD) hS rfl hl.1 rfl (Nat.le_of_ble_eq_true rfl) dX12_answers_35 ⟨Nat.zero_le _, Nat.zero_le _⟩) hS (fun H locs hP hS => ?_)
    refine lv_if_ne (tgt := 45) hx hb dX12_answers_38 (by decide) (fun c10 => ?_) (fun c10 => ?_)
    · replace hf := (if_neg c10).symm.trans hf
      refine lv_iload_n hx hb dX12_answers_45 rfl (lv_at hl 3 rfl) ?_
      refine lv_iconst (v := 0) hx hb dX12_answers_46 (by decide) ?_
      refine lv_aload_n hx hb dX12_answers_47 rfl (lv_at hl 0 rfl) ?_
      refine va_get (C := RX12) (T := TX12) (N := 22) hx hb hw bfX120 hown hK hP 0 (gm_0 E g a) rfl 0 (by decide) (hw _ bw755) (fun _ h9 => h9) rfl dX12_answers_48 ?_
      refine lv_iconst (v := 1) hx hb dX12_answers_51 (by decide) ?_
      refine lv_isub hx hb dX12_answers_52 ?_
      refine xci (xRunS (rest := [.ref (E.2.1 0)]) (As := [.int x3, .int 0, .int ((g 0) - 1)]) (k := 3) C0 (c_X12_in l E g a x3 0 ((g 0) - 1)) bw772 bw785 bw778 bw786 hd_X12_in ⟨Nat.le_of_ble_eq_true rfl, Nat.le_of_ble_eq_true rfl⟩ hP (wM_D hD) hS rfl hl.1 rfl (Nat.le_of_ble_eq_true rfl) dX12_answers_53 ⟨Nat.zero_le _, Nat.zero_le _⟩) hS (fun H locs hP hS => ?_)
      refine lv_if_ne (tgt := 63) hx hb dX12_answers_56 (by decide) (fun c11 => ?_) (fun c11 => ?_)
      · replace hf := (if_neg c11).symm.trans hf
        refine lv_iconst (v := 0) hx hb dX12_answers_63 (by decide) ?_
        exact B64 g a x1 x2 x3 0 _ _ _ hP hS (lv_sub hl [0, 1, 2, 3] rfl) hf
      · replace hf := (if_pos c11).symm.trans hf
        refine lv_iconst (v := 2) hx hb dX12_answers_59 (by decide) ?_
        refine lv_goto (tgt := 64) hx hb dX12_answers_60 (by decide) ?_
        exact B64 g a x1 x2 x3 2 _ _ _ hP hS (lv_sub hl [0, 1, 2, 3] rfl) hf
    · replace hf := (if_pos c10).symm.trans hf
      refine lv_iconst (v := 1) hx hb dX12_answers_41 (by decide) ?_
      refine lv_goto (tgt := 64) hx hb dX12_answers_42 (by decide) ?_
      exact B64 g a x1 x2 x3 1 _ _ _ hP hS (lv_sub hl [0, 1, 2, 3] rfl) hf
  refine lv_aload_n hx hb dX12_answers_0 rfl (lv_at hl 0 rfl) ?_
  refine lv_aload_n hx hb dX12_answers_1 rfl (lv_at hl 0 rfl) ?_
  refine lv_iload_n hx hb dX12_answers_2 rfl (lv_at hl 1 rfl) ?_
  obtain ⟨u1, e2, hf⟩ := bd_some hf
  refine xci (xRunV (rest := [.ref (E.2.1 0)]) (As := [.int v1]) (C := RX12) (k := 1) C0 (c_X12_isOperation l E g a v1 e2) bw812 bw814 bw778 bw815 bw816 hd_X12_isOperation ⟨Nat.le_of_ble_eq_true rfl, Nat.le_of_ble_eq_true rfl⟩ hP (wM_D hD) hS (va_recv hK hP (ci := 12) rfl (gm_0 E g a)) rfl hl.1 rfl (Nat.le_of_ble_eq_true rfl) dX12_answers_3 ⟨Nat.zero_le _, Nat.zero_le _⟩) hS (fun H locs hP hS => ?_)
  refine lv_if_eq (tgt := 41) hx hb dX12_answers_6 (by decide) (fun c3 => ?_) (fun c3 => ?_)
  · replace hf := (if_pos c3).symm.trans hf
    refine lv_iconst (v := 1) hx hb dX12_answers_41 (by decide) ?_
    refine lv_goto (tgt := 64) hx hb dX12_answers_42 (by decide) ?_
    exact B64 g a v1 v2 v3 1 _ _ _ hP hS (lv_sub hl [0, 1, 2, 3] rfl) hf
  · replace hf := (if_neg c3).symm.trans hf
    refine lv_iload_n hx hb dX12_answers_9 rfl (lv_at hl 2 rfl) ?_
    refine lv_iconst (v := 0) hx hb dX12_answers_10 (by decide) ?_
    refine lv_aload_n hx hb dX12_answers_11 rfl (lv_at hl 0 rfl) ?_
    refine lv_aload_n hx hb dX12_answers_12 rfl (lv_at hl 0 rfl) ?_
    refine va_get (C := RX12) (T := TX12) (N := 22) hx hb hw bfX120 hown hK hP 0 (gm_0 E g a) rfl 5 (by decide) (hw _ bw758) (fun _ h9 => h9) rfl dX12_answers_13 ?_
    refine lv_aload_n hx hb dX12_answers_16 rfl (lv_at hl 0 rfl) ?_
    refine lv_iload_n hx hb dX12_answers_17 rfl (lv_at hl 1 rfl) ?_
    obtain ⟨u4, e5, hf⟩ := bd_some hf
    refine xci (xRunV (rest := [.ref (E.2.1 3), .ref (E.2.1 0), .int 0, .int v2, .ref (E.2.1 0)]) (As := [.int v1]) (C := RX12) (k := 1) C0 (c_X12_isOperation l E g a v1 e5) bw812 bw814 bw778 bw815 bw816 hd_X12_isOperation ⟨Nat.le_of_ble_eq_true rfl, Nat.le_of_ble_eq_true rfl⟩ hP (wM_D hD) hS (va_recv hK hP (ci := 12) rfl (gm_0 E g a)) rfl hl.1 rfl (Nat.le_of_ble_eq_true rfl) dX12_answers_18 ⟨Nat.zero_le _, Nat.zero_le _⟩) hS (fun H locs hP hS => ?_)
    refine lv_if_eq (tgt := 28) hx hb dX12_answers_21 (by decide) (fun c6 => ?_) (fun c6 => ?_)
    · replace hf := (if_pos c6).symm.trans hf
      refine lv_iconst (v := 0) hx hb dX12_answers_28 (by decide) ?_
      exact B29 g a v1 v2 v3 0 0 v2 _ _ _ hP hS (lv_sub hl [0, 1, 2, 3] rfl) hf
    · replace hf := (if_neg c6).symm.trans hf
      refine lv_iload_n hx hb dX12_answers_24 rfl (lv_at hl 1 rfl) ?_
      refine lv_goto (tgt := 29) hx hb dX12_answers_25 (by decide) ?_
      exact B29 g a v1 v2 v3 v1 0 v2 _ _ _ hP hS (lv_sub hl [0, 1, 2, 3] rfl) hf
def f_X12_codeOf_11 (g : xG) (a : xA) : Nat → Int32 → Int64 → Int32 → Option (Int64)
  | 0, _, _, _ => none
  | n + 1, x1, x3, x5 => (if x5 < 0 then some x3 else ck (inB ((27 * x1) + x5) 189) (f_X12_codeOf_11 g a n x1 ((x3 * (((g 0) : Int32).toInt64)) + (((a 4 (((27 * x1) + x5) : Int32).toNatClampNeg) : Int32).toInt64)) (x5 + (-1))))
theorem e_X12_codeOf_11 (g : xG) (a : xA) (n : Nat) (x1 : Int32) (x3 : Int64) (x5 : Int32) : f_X12_codeOf_11 g a (n + 1) x1 x3 x5 = (if x5 < 0 then some x3 else ck (inB ((27 * x1) + x5) 189) (f_X12_codeOf_11 g a n x1 ((x3 * (((g 0) : Int32).toInt64)) + (((a 4 (((27 * x1) + x5) : Int32).toNatClampNeg) : Int32).toInt64)) (x5 + (-1)))) := rfl
def f_X12_codeOf (g : xG) (a : xA) (v1 : Int32) (v2 : Int32) : Option (Int64) := Option.bind (f_X12_power g a v2) (fun u1 => f_X12_codeOf_11 g a fu v1 0 (u1 - 1))
set_option maxRecDepth 100000 in
set_option maxHeartbeats 40000000 in
theorem c_X12_codeOf (l : Launch) (E : xE) (g : xG) (a : xA) (v1 : Int32) (v2 : Int32) {res : Int64} (hf : f_X12_codeOf g a v1 v2 = some res) : xM l E yX12_codeOf cX12_codeOf 6 (some .long) 1 23 [.ref (E.2.1 0), .int v1, .int v2] (wM E g a) (xQl E res (wM E g a)) := by
  unfold f_X12_codeOf at hf
  refine xM_of (by decide) (Nat.le_of_ble_eq_true rfl) ?_
  intro p e s m below meth c A hx hb hr hml hts hown hlocks hA hD hP hK hN hS ls hl
  have hw : ∀ w ∈ BW, w.before _ s = true := fun w h => hts w (List.mem_cons_of_mem _ h)
  have C0 : xCtx E p m c cX12_codeOf 6 s _ RX12 A yX12_codeOf cX12_codeOf 6 (some .long) := ⟨hx, hb, hml, hown, hts, hA, hK, hN⟩
  have hl : lv_has ls 6 [(0, .ref (E.2.1 0)), (1, .int v1), (2, .int v2)] := hl
  have B11 : ∀ (n : Nat) (x1 : Int32) (x3 : Int64) (x5 : Int32) (H : Heap) (locs : List Loc) (ls : Array Slot), va_P E.1 vwCl (wM E g a) H → va_S A s.heap H locs → lv_has ls 6 [(0, .ref (E.2.1 0)), (1, .int x1), (3, .long x3), (5, .int x5)] → f_X12_codeOf_11 g a n x1 x3 x5 = some res → W p l e ({ frames := 1, cells := 0, slots := 0, locals := 23 }) s m ([.ref (E.2.1 0), .int v1, .int v2] : List Value).toArray below meth c H locs 0 0 (MQ below ((xQl E res (wM E g a)) A) ([.ref (E.2.1 0), .int v1, .int v2] : List Value).toArray s 0 0 A) (F0 m 11 ls []) := by
    intro n
    induction n with
    | zero => intro x1 x3 x5 H locs ls hP hS hl hf; exact absurd (show (none : Option (Int64)) = some res from hf) (by intro h; cases h)
    | succ n ih =>
      intro x1 x3 x5 H locs ls hP hS hl hf
      replace hf := (e_X12_codeOf_11 g a n x1 x3 x5).symm.trans hf
      refine lv_iload hx hb dX12_codeOf_11 (lv_at hl 3 rfl) ?_
      refine lv_if_lt (tgt := 44) hx hb dX12_codeOf_13 (by decide) (fun c3 => ?_) (fun c3 => ?_)
      · replace hf := (if_pos c3).symm.trans hf
        refine lv_lload_n hx hb dX12_codeOf_44 rfl (lv_at hl 2 rfl) ?_
        exact xl_retS (fr := (fun r => r)) (fw := (fun r => wM E g a)) hx hb hr hlocks (Option.some.inj hf) hP hS dX12_codeOf_45
      · replace hf := (if_neg c3).symm.trans hf
        refine lv_lload_n hx hb dX12_codeOf_16 rfl (lv_at hl 2 rfl) ?_
        refine lv_aload_n hx hb dX12_codeOf_17 rfl (lv_at hl 0 rfl) ?_
        refine va_get (C := RX12) (T := TX12) (N := 22) hx hb hw bfX120 hown hK hP 0 (gm_0 E g a) rfl 0 (by decide) (hw _ bw755) (fun _ h9 => h9) rfl dX12_codeOf_18 ?_
        refine lv_i2l (v := (((g 0) : Int32).toInt64)) hx hb dX12_codeOf_21 rfl ?_
        refine lv_lmul hx hb dX12_codeOf_22 ?_
        refine lv_aload_n hx hb dX12_codeOf_23 rfl (lv_at hl 0 rfl) ?_
        refine va_get (C := RX12) (T := TX12) (N := 22) hx hb hw bfX120 hown hK hP 0 (gm_0 E g a) rfl 6 (by decide) (hw _ bw759) (fun _ h9 => h9) rfl dX12_codeOf_24 ?_
        refine lv_bipush (v := 27) hx hb dX12_codeOf_27 (by decide) ?_
        refine lv_iload_n hx hb dX12_codeOf_29 rfl (lv_at hl 1 rfl) ?_
        refine lv_imul hx hb dX12_codeOf_30 ?_
        refine lv_iload hx hb dX12_codeOf_31 (lv_at hl 3 rfl) ?_
        refine lv_iadd hx hb dX12_codeOf_33 ?_
        obtain ⟨k4, hf⟩ := ck_some hf
        refine va_iald hx hb hK hP 4 0 (gm_4 E g a) rfl (inB_in k4) dX12_codeOf_34 ?_
        refine lv_i2l (v := (((a 4 (((27 * x1) + x5) : Int32).toNatClampNeg) : Int32).toInt64)) hx hb dX12_codeOf_35 rfl ?_
        refine lv_ladd hx hb dX12_codeOf_36 ?_
        refine lv_lstore_n (lv' := [(3, .long ((x3 * (((g 0) : Int32).toInt64)) + (((a 4 (((27 * x1) + x5) : Int32).toNatClampNeg) : Int32).toInt64))), (0, .ref (E.2.1 0)), (1, .int x1), (5, .int x5)]) hx hb dX12_codeOf_37 rfl hl (by decide) rfl (fun ls hl => ?_)
        refine lv_iinc (v := (x5 + (-1))) (lv' := [(5, .int (x5 + (-1))), (3, .long ((x3 * (((g 0) : Int32).toInt64)) + (((a 4 (((27 * x1) + x5) : Int32).toNatClampNeg) : Int32).toInt64))), (0, .ref (E.2.1 0)), (1, .int x1)]) hx hb dX12_codeOf_38 hl (k := 3) rfl rfl (by decide) rfl (fun ls hl => ?_)
        refine lv_goto (tgt := 11) hx hb dX12_codeOf_41 (by decide) ?_
        exact ih x1 ((x3 * (((g 0) : Int32).toInt64)) + (((a 4 (((27 * x1) + x5) : Int32).toNatClampNeg) : Int32).toInt64)) (x5 + (-1)) _ _ _ hP hS (lv_sub hl [2, 3, 1, 0] rfl) hf
  refine lv_lconst (v := 0) hx hb dX12_codeOf_0 (by decide) ?_
  refine lv_lstore_n (lv' := [(3, .long 0), (0, .ref (E.2.1 0)), (1, .int v1), (2, .int v2)]) hx hb dX12_codeOf_1 rfl hl (by decide) rfl (fun ls hl => ?_)
  refine lv_aload_n hx hb dX12_codeOf_2 rfl (lv_at hl 1 rfl) ?_
  refine lv_iload_n hx hb dX12_codeOf_3 rfl (lv_at hl 3 rfl) ?_
  obtain ⟨u1, e2, hf⟩ := bd_some hf
  refine xci (xRunV (rest := []) (As := [.int v2]) (C := RX12) (k := 1) C0 (c_X12_power l E g a v2 e2) bw773 bw775 bw778 bw776 bw777 hd_X12_power ⟨Nat.le_of_ble_eq_true rfl, Nat.le_of_ble_eq_true rfl⟩ hP (wM_D hD) hS (va_recv hK hP (ci := 12) rfl (gm_0 E g a)) rfl hl.1 rfl (Nat.le_of_ble_eq_true rfl) dX12_codeOf_4 ⟨Nat.zero_le _, Nat.zero_le _⟩) hS (fun H locs hP hS => ?_)
  refine lv_iconst (v := 1) hx hb dX12_codeOf_7 (by decide) ?_
  refine lv_isub hx hb dX12_codeOf_8 ?_
  refine lv_istore (lv' := [(5, .int (u1 - 1)), (3, .long 0), (0, .ref (E.2.1 0)), (1, .int v1), (2, .int v2)]) hx hb dX12_codeOf_9 hl (by decide) rfl (fun ls hl => ?_)
  exact B11 fu v1 0 (u1 - 1) _ _ _ hP hS (lv_sub hl [2, 3, 1, 0] rfl) hf
def f_X12_code_14 (a : xA) (g : xG) (x1 : Int32) (s0 : Int32) : Option (Int64 × xG) := (if ((upd g 8 s0) 8) = 0 then ck (inB x1 6) (Option.bind (f_X12_codeOf (upd g 8 s0) a x1 (a 3 (x1 : Int32).toNatClampNeg)) (fun u6 => some (u6, (upd g 8 s0)))) else some (0, (upd g 8 s0)))
def f_X12_code (g : xG) (a : xA) (v1 : Int32) : Option (Int64 × xG) := Option.bind (f_X12_isOperation g a v1) (fun u1 => (if u1 = 0 then f_X12_code_14 a g v1 1 else f_X12_code_14 a g v1 0))
set_option maxRecDepth 100000 in
set_option maxHeartbeats 40000000 in
theorem c_X12_code (l : Launch) (E : xE) (g : xG) (a : xA) (v1 : Int32) {res : Int64 × xG} (hf : f_X12_code g a v1 = some res) : xM l E yX12_code cX12_code 2 (some .long) 2 48 [.ref (E.2.1 0), .int v1] (wM E g a) (xQl E res.1 (wM E res.2 a)) := by
  unfold f_X12_code at hf
  refine xM_of (by decide) (Nat.le_of_ble_eq_true rfl) ?_
  intro p e s m below meth c A hx hb hr hml hts hown hlocks hA hD hP hK hN hS ls hl
  have hw : ∀ w ∈ BW, w.before _ s = true := fun w h => hts w (List.mem_cons_of_mem _ h)
  have C0 : xCtx E p m c cX12_code 2 s _ RX12 A yX12_code cX12_code 2 (some .long) := ⟨hx, hb, hml, hown, hts, hA, hK, hN⟩
  have hl : lv_has ls 2 [(0, .ref (E.2.1 0)), (1, .int v1)] := hl
  have B14 : ∀ (g : xG) (x1 : Int32) (s0 : Int32) (H : Heap) (locs : List Loc) (ls : Array Slot), va_P E.1 vwCl (wM E g a) H → va_S A s.heap H locs → lv_has ls 2 [(0, .ref (E.2.1 0)), (1, .int x1)] → f_X12_code_14 a g x1 s0 = some res → W p l e ({ frames := 2, cells := 0, slots := 0, locals := 48 }) s m ([.ref (E.2.1 0), .int v1] : List Value).toArray below meth c H locs 0 0 (MQ below ((xQl E res.1 (wM E res.2 a)) A) ([.ref (E.2.1 0), .int v1] : List Value).toArray s 0 0 A) (F0 m 14 ls [.int s0, .ref (E.2.1 0)]) := by
    intro g x1 s0 H locs ls hP hS hl hf
    unfold f_X12_code_14 at hf
    refine va_put (v := .int s0) (ty := .int) (C := RX12) (T := TX12) (N := 22) hx hb hw bfX120 tyX12 tyX12_ok nmX12 hown hK hP (wM_D hD) hS 0 (gm_0 E g a) rfl 21 (by decide) (hw _ bw771) (fun _ h9 => h9) rfl (by decide +kernel) rfl rfl (Nat.le_of_ble_eq_true rfl) dX12_code_14 (fun H locs hP _ hS => ?_)
    have hP := xP_eq (sm_g8 E g a s0) hP
    refine lv_aload_n hx hb dX12_code_17 rfl (lv_at hl 0 rfl) ?_
    refine va_get (C := RX12) (T := TX12) (N := 22) hx hb hw bfX120 hown hK hP 0 (gm_0 E (upd g 8 s0) a) rfl 21 (by decide) (hw _ bw771) (fun _ h9 => h9) rfl dX12_code_18 ?_
    refine lv_if_ne (tgt := 38) hx hb dX12_code_21 (by decide) (fun c4 => ?_) (fun c4 => ?_)
    · replace hf := (if_neg c4).symm.trans hf
      refine lv_lconst (v := 0) hx hb dX12_code_38 (by decide) ?_
      exact xl_retS (fr := (fun r => r.1)) (fw := (fun r => wM E r.2 a)) hx hb hr hlocks (Option.some.inj hf) hP hS dX12_code_39
    · replace hf := (if_pos c4).symm.trans hf
      refine lv_aload_n hx hb dX12_code_24 rfl (lv_at hl 0 rfl) ?_
      refine lv_iload_n hx hb dX12_code_25 rfl (lv_at hl 1 rfl) ?_
      refine lv_aload_n hx hb dX12_code_26 rfl (lv_at hl 0 rfl) ?_
      refine va_get (C := RX12) (T := TX12) (N := 22) hx hb hw bfX120 hown hK hP 0 (gm_0 E (upd g 8 s0) a) rfl 5 (by decide) (hw _ bw758) (fun _ h9 => h9) rfl dX12_code_27 ?_
      refine lv_iload_n hx hb dX12_code_30 rfl (lv_at hl 1 rfl) ?_
      obtain ⟨k5, hf⟩ := ck_some hf
      refine va_iald hx hb hK hP 3 0 (gm_3 E (upd g 8 s0) a) rfl (inB_in k5) dX12_code_31 ?_
      obtain ⟨u6, e7, hf⟩ := bd_some hf
      refine xcl (xRunV (rest := []) (As := [.int x1, .int (a 3 (x1 : Int32).toNatClampNeg)]) (C := RX12) (k := 2) C0 (c_X12_codeOf l E (upd g 8 s0) a x1 (a 3 (x1 : Int32).toNatClampNeg) e7) bw817 bw819 bw778 bw820 bw821 hd_X12_codeOf ⟨Nat.le_of_ble_eq_true rfl, Nat.le_of_ble_eq_true rfl⟩ hP (wM_D hD) hS (va_recv hK hP (ci := 12) rfl (gm_0 E (upd g 8 s0) a)) rfl hl.1 rfl (Nat.le_of_ble_eq_true rfl) dX12_code_32 ⟨Nat.zero_le _, Nat.zero_le _⟩) hS (fun H locs hP hS => ?_)
      refine lv_goto (tgt := 39) hx hb dX12_code_35 (by decide) ?_
      exact xl_retS (fr := (fun r => r.1)) (fw := (fun r => wM E r.2 a)) hx hb hr hlocks (Option.some.inj hf) hP hS dX12_code_39
  refine lv_aload_n hx hb dX12_code_0 rfl (lv_at hl 0 rfl) ?_
  refine lv_aload_n hx hb dX12_code_1 rfl (lv_at hl 0 rfl) ?_
  refine lv_iload_n hx hb dX12_code_2 rfl (lv_at hl 1 rfl) ?_
  obtain ⟨u1, e2, hf⟩ := bd_some hf
  refine xci (xRunV (rest := [.ref (E.2.1 0)]) (As := [.int v1]) (C := RX12) (k := 1) C0 (c_X12_isOperation l E g a v1 e2) bw812 bw814 bw778 bw815 bw816 hd_X12_isOperation ⟨Nat.le_of_ble_eq_true rfl, Nat.le_of_ble_eq_true rfl⟩ hP (wM_D hD) hS (va_recv hK hP (ci := 12) rfl (gm_0 E g a)) rfl hl.1 rfl (Nat.le_of_ble_eq_true rfl) dX12_code_3 ⟨Nat.zero_le _, Nat.zero_le _⟩) hS (fun H locs hP hS => ?_)
  refine lv_if_eq (tgt := 13) hx hb dX12_code_6 (by decide) (fun c3 => ?_) (fun c3 => ?_)
  · replace hf := (if_pos c3).symm.trans hf
    refine lv_iconst (v := 1) hx hb dX12_code_13 (by decide) ?_
    exact B14 g v1 1 _ _ _ hP hS (lv_sub hl [0, 1] rfl) hf
  · replace hf := (if_neg c3).symm.trans hf
    refine lv_iconst (v := 0) hx hb dX12_code_9 (by decide) ?_
    refine lv_goto (tgt := 14) hx hb dX12_code_10 (by decide) ?_
    exact B14 g v1 0 _ _ _ hP hS (lv_sub hl [0, 1] rfl) hf
def f_X12_applied_21 (g : xG) (a : xA) (K8 : Int32 → Int32 → Int32 → Int32 → Option (Int32)) : Nat → Int32 → Int32 → Int32 → Int32 → Int32 → Int32 → Option (Int32)
  | 0, _, _, _, _, _, _ => none
  | n + 1, x1, x2, x4, x5, x6, x7 => (if x7 < 0 then ck (inB ((27 * x1) + x6) 189) (K8 x1 x2 ((x4 * (g 0)) + (a 4 (((27 * x1) + x6) : Int32).toNatClampNeg)) (x5 + (-1))) else ck (inB x7 3) (Option.bind (f_X12_on g a (a 11 (x7 : Int32).toNatClampNeg) x5) (fun u5 => f_X12_applied_21 g a K8 n x1 x2 x4 x5 ((x6 * (g 0)) + u5) (x7 + (-1)))))
theorem e_X12_applied_21 (g : xG) (a : xA) (K8 : Int32 → Int32 → Int32 → Int32 → Option (Int32)) (n : Nat) (x1 : Int32) (x2 : Int32) (x4 : Int32) (x5 : Int32) (x6 : Int32) (x7 : Int32) : f_X12_applied_21 g a K8 (n + 1) x1 x2 x4 x5 x6 x7 = (if x7 < 0 then ck (inB ((27 * x1) + x6) 189) (K8 x1 x2 ((x4 * (g 0)) + (a 4 (((27 * x1) + x6) : Int32).toNatClampNeg)) (x5 + (-1))) else ck (inB x7 3) (Option.bind (f_X12_on g a (a 11 (x7 : Int32).toNatClampNeg) x5) (fun u5 => f_X12_applied_21 g a K8 n x1 x2 x4 x5 ((x6 * (g 0)) + u5) (x7 + (-1))))) := rfl
def f_X12_applied_8 (g : xG) (a : xA) : Nat → Int32 → Int32 → Int32 → Int32 → Option (Int32)
  | 0, _, _, _, _ => none
  | n + 1, x1, x2, x4, x5 => (if x5 < 0 then some x4 else f_X12_applied_21 g a (f_X12_applied_8 g a n) fu x1 x2 x4 x5 0 (x2 - 1))
theorem e_X12_applied_8 (g : xG) (a : xA) (n : Nat) (x1 : Int32) (x2 : Int32) (x4 : Int32) (x5 : Int32) : f_X12_applied_8 g a (n + 1) x1 x2 x4 x5 = (if x5 < 0 then some x4 else f_X12_applied_21 g a (f_X12_applied_8 g a n) fu x1 x2 x4 x5 0 (x2 - 1)) := rfl
def f_X12_applied (g : xG) (a : xA) (v1 : Int32) (v2 : Int32) (v3 : Int32) : Option (Int32) := f_X12_applied_8 g a fu v1 v2 0 (v3 - 1)
set_option maxRecDepth 100000 in
set_option maxHeartbeats 40000000 in
theorem c_X12_applied (l : Launch) (E : xE) (g : xG) (a : xA) (v1 : Int32) (v2 : Int32) (v3 : Int32) {res : Int32} (hf : f_X12_applied g a v1 v2 v3 = some res) : xM l E yX12_applied cX12_applied 8 (some .int) 2 45 [.ref (E.2.1 0), .int v1, .int v2, .int v3] (wM E g a) (xQi E res (wM E g a)) := by
  unfold f_X12_applied at hf
  refine xM_of (by decide) (Nat.le_of_ble_eq_true rfl) ?_
  intro p e s m below meth c A hx hb hr hml hts hown hlocks hA hD hP hK hN hS ls hl
  have hw : ∀ w ∈ BW, w.before _ s = true := fun w h => hts w (List.mem_cons_of_mem _ h)
  have C0 : xCtx E p m c cX12_applied 8 s _ RX12 A yX12_applied cX12_applied 8 (some .int) := ⟨hx, hb, hml, hown, hts, hA, hK, hN⟩
  have hl : lv_has ls 8 [(0, .ref (E.2.1 0)), (1, .int v1), (2, .int v2), (3, .int v3)] := hl
  have B21 : ∀ (K8 : Int32 → Int32 → Int32 → Int32 → Option (Int32)) (hK8 : ∀ (x1 : Int32) (x2 : Int32) (x4 : Int32) (x5 : Int32) (H : Heap) (locs : List Loc) (ls : Array Slot), va_P E.1 vwCl (wM E g a) H → va_S A s.heap H locs → lv_has ls 8 [(0, .ref (E.2.1 0)), (1, .int x1), (2, .int x2), (4, .int x4), (5, .int x5)] → K8 x1 x2 x4 x5 = some res → W p l e ({ frames := 2, cells := 0, slots := 0, locals := 45 }) s m ([.ref (E.2.1 0), .int v1, .int v2, .int v3] : List Value).toArray below meth c H locs 0 0 (MQ below ((xQi E res (wM E g a)) A) ([.ref (E.2.1 0), .int v1, .int v2, .int v3] : List Value).toArray s 0 0 A) (F0 m 8 ls [])) (n : Nat) (x1 : Int32) (x2 : Int32) (x4 : Int32) (x5 : Int32) (x6 : Int32) (x7 : Int32) (H : Heap) (locs : List Loc) (ls : Array Slot), va_P E.1 vwCl (wM E g a) H → va_S A s.heap H locs → lv_has ls 8 [(0, .ref (E.2.1 0)), (1, .int x1), (2, .int x2), (4, .int x4), (5, .int x5), (6, .int x6), (7, .int x7)] → f_X12_applied_21 g a K8 n x1 x2 x4 x5 x6 x7 = some res → W p l e ({ frames := 2, cells := 0, slots := 0, locals := 45 }) s m ([.ref (E.2.1 0), .int v1, .int v2, .int v3] : List Value).toArray below meth c H locs 0 0 (MQ below ((xQi E res (wM E g a)) A) ([.ref (E.2.1 0), .int v1, .int v2, .int v3] : List Value).toArray s 0 0 A) (F0 m 21 ls []) := by
    intro K8 hK8 n
    induction n with
    | zero => intro x1 x2 x4 x5 x6 x7 H locs ls hP hS hl hf; exact absurd (show (none : Option (Int32)) = some res from hf) (by intro h; cases h)
    | succ n ih =>
      intro x1 x2 x4 x5 x6 x7 H locs ls hP hS hl hf
      replace hf := (e_X12_applied_21 g a K8 n x1 x2 x4 x5 x6 x7).symm.trans hf
      refine lv_iload hx hb dX12_applied_21 (lv_at hl 6 rfl) ?_
      refine lv_if_lt (tgt := 55) hx hb dX12_applied_23 (by decide) (fun c2 => ?_) (fun c2 => ?_)
      · replace hf := (if_pos c2).symm.trans hf
        refine lv_iload hx hb dX12_applied_55 (lv_at hl 3 rfl) ?_
        refine lv_aload_n hx hb dX12_applied_57 rfl (lv_at hl 0 rfl) ?_
        refine va_get (C := RX12) (T := TX12) (N := 22) hx hb hw bfX120 hown hK hP 0 (gm_0 E g a) rfl 0 (by decide) (hw _ bw755) (fun _ h9 => h9) rfl dX12_applied_58 ?_
        refine lv_imul hx hb dX12_applied_61 ?_
        refine lv_aload_n hx hb dX12_applied_62 rfl (lv_at hl 0 rfl) ?_
        refine va_get (C := RX12) (T := TX12) (N := 22) hx hb hw bfX120 hown hK hP 0 (gm_0 E g a) rfl 6 (by decide) (hw _ bw759) (fun _ h9 => h9) rfl dX12_applied_63 ?_
        refine lv_bipush (v := 27) hx hb dX12_applied_66 (by decide) ?_
        refine lv_iload_n hx hb dX12_applied_68 rfl (lv_at hl 1 rfl) ?_
        refine lv_imul hx hb dX12_applied_69 ?_
        refine lv_iload hx hb dX12_applied_70 (lv_at hl 5 rfl) ?_
        refine lv_iadd hx hb dX12_applied_72 ?_
        obtain ⟨k3, hf⟩ := ck_some hf
        refine va_iald hx hb hK hP 4 0 (gm_4 E g a) rfl (inB_in k3) dX12_applied_73 ?_
        refine lv_iadd hx hb dX12_applied_74 ?_
        refine lv_istore (lv' := [(4, .int ((x4 * (g 0)) + (a 4 (((27 * x1) + x6) : Int32).toNatClampNeg))), (0, .ref (E.2.1 0)), (1, .int x1), (2, .int x2), (5, .int x5), (6, .int x6), (7, .int x7)]) hx hb dX12_applied_75 hl (by decide) rfl (fun ls hl => ?_)
        refine lv_iinc (v := (x5 + (-1))) (lv' := [(5, .int (x5 + (-1))), (4, .int ((x4 * (g 0)) + (a 4 (((27 * x1) + x6) : Int32).toNatClampNeg))), (0, .ref (E.2.1 0)), (1, .int x1), (2, .int x2), (6, .int x6), (7, .int x7)]) hx hb dX12_applied_77 hl (k := 4) rfl rfl (by decide) rfl (fun ls hl => ?_)
        refine lv_goto (tgt := 8) hx hb dX12_applied_80 (by decide) ?_
        exact hK8 x1 x2 ((x4 * (g 0)) + (a 4 (((27 * x1) + x6) : Int32).toNatClampNeg)) (x5 + (-1)) _ _ _ hP hS (lv_sub hl [2, 3, 4, 1, 0] rfl) hf
      · replace hf := (if_neg c2).symm.trans hf
        refine lv_iload hx hb dX12_applied_26 (lv_at hl 5 rfl) ?_
        refine lv_aload_n hx hb dX12_applied_28 rfl (lv_at hl 0 rfl) ?_
        refine va_get (C := RX12) (T := TX12) (N := 22) hx hb hw bfX120 hown hK hP 0 (gm_0 E g a) rfl 0 (by decide) (hw _ bw755) (fun _ h9 => h9) rfl dX12_applied_29 ?_
        refine lv_imul hx hb dX12_applied_32 ?_
        refine lv_aload_n hx hb dX12_applied_33 rfl (lv_at hl 0 rfl) ?_
        refine lv_aload_n hx hb dX12_applied_34 rfl (lv_at hl 0 rfl) ?_
        refine va_get (C := RX12) (T := TX12) (N := 22) hx hb hw bfX120 hown hK hP 0 (gm_0 E g a) rfl 18 (by decide) (hw _ bw767) (fun _ h9 => h9) rfl dX12_applied_35 ?_
        refine lv_iload hx hb dX12_applied_38 (lv_at hl 6 rfl) ?_
        obtain ⟨k4, hf⟩ := ck_some hf
        refine va_iald hx hb hK hP 11 0 (gm_11 E g a) rfl (inB_in k4) dX12_applied_40 ?_
        refine lv_iload hx hb dX12_applied_41 (lv_at hl 4 rfl) ?_
        obtain ⟨u5, e6, hf⟩ := bd_some hf
        refine xci (xRunV (rest := [.int (x6 * (g 0))]) (As := [.int (a 11 (x7 : Int32).toNatClampNeg), .int x5]) (C := RX12) (k := 2) C0 (c_X12_on l E g a (a 11 (x7 : Int32).toNatClampNeg) x5 e6) bw774 bw823 bw778 bw824 bw825 hd_X12_on ⟨Nat.le_of_ble_eq_true rfl, Nat.le_of_ble_eq_true rfl⟩ hP (wM_D hD) hS (va_recv hK hP (ci := 12) rfl (gm_0 E g a)) rfl hl.1 rfl (Nat.le_of_ble_eq_true rfl) dX12_applied_43 ⟨Nat.zero_le _, Nat.zero_le _⟩) hS (fun H locs hP hS => ?_)
        refine lv_iadd hx hb dX12_applied_46 ?_
        refine lv_istore (lv' := [(6, .int ((x6 * (g 0)) + u5)), (0, .ref (E.2.1 0)), (1, .int x1), (2, .int x2), (4, .int x4), (5, .int x5), (7, .int x7)]) hx hb dX12_applied_47 hl (by decide) rfl (fun ls hl => ?_)
        refine lv_iinc (v := (x7 + (-1))) (lv' := [(7, .int (x7 + (-1))), (6, .int ((x6 * (g 0)) + u5)), (0, .ref (E.2.1 0)), (1, .int x1), (2, .int x2), (4, .int x4), (5, .int x5)]) hx hb dX12_applied_49 hl (k := 6) rfl rfl (by decide) rfl (fun ls hl => ?_)
        refine lv_goto (tgt := 21) hx hb dX12_applied_52 (by decide) ?_
        exact ih x1 x2 x4 x5 ((x6 * (g 0)) + u5) (x7 + (-1)) _ _ _ hP hS (lv_sub hl [2, 3, 4, 5, 6, 1, 0] rfl) hf
  have B8 : ∀ (n : Nat) (x1 : Int32) (x2 : Int32) (x4 : Int32) (x5 : Int32) (H : Heap) (locs : List Loc) (ls : Array Slot), va_P E.1 vwCl (wM E g a) H → va_S A s.heap H locs → lv_has ls 8 [(0, .ref (E.2.1 0)), (1, .int x1), (2, .int x2), (4, .int x4), (5, .int x5)] → f_X12_applied_8 g a n x1 x2 x4 x5 = some res → W p l e ({ frames := 2, cells := 0, slots := 0, locals := 45 }) s m ([.ref (E.2.1 0), .int v1, .int v2, .int v3] : List Value).toArray below meth c H locs 0 0 (MQ below ((xQi E res (wM E g a)) A) ([.ref (E.2.1 0), .int v1, .int v2, .int v3] : List Value).toArray s 0 0 A) (F0 m 8 ls []) := by
    intro n
    induction n with
    | zero => intro x1 x2 x4 x5 H locs ls hP hS hl hf; exact absurd (show (none : Option (Int32)) = some res from hf) (by intro h; cases h)
    | succ n ih =>
      intro x1 x2 x4 x5 H locs ls hP hS hl hf
      replace hf := (e_X12_applied_8 g a n x1 x2 x4 x5).symm.trans hf
      refine lv_iload hx hb dX12_applied_8 (lv_at hl 4 rfl) ?_
      refine lv_if_lt (tgt := 83) hx hb dX12_applied_10 (by decide) (fun c1 => ?_) (fun c1 => ?_)
      · replace hf := (if_pos c1).symm.trans hf
        refine lv_iload hx hb dX12_applied_83 (lv_at hl 3 rfl) ?_
        exact xi_retS (fr := (fun r => r)) (fw := (fun r => wM E g a)) hx hb hr hlocks (Option.some.inj hf) hP hS dX12_applied_85
      · replace hf := (if_neg c1).symm.trans hf
        refine lv_iconst (v := 0) hx hb dX12_applied_13 (by decide) ?_
        refine lv_istore (lv' := [(6, .int 0), (0, .ref (E.2.1 0)), (1, .int x1), (2, .int x2), (4, .int x4), (5, .int x5)]) hx hb dX12_applied_14 hl (by decide) rfl (fun ls hl => ?_)
        refine lv_iload_n hx hb dX12_applied_16 rfl (lv_at hl 3 rfl) ?_
        refine lv_iconst (v := 1) hx hb dX12_applied_17 (by decide) ?_
        refine lv_isub hx hb dX12_applied_18 ?_
        refine lv_istore (lv' := [(7, .int (x2 - 1)), (6, .int 0), (0, .ref (E.2.1 0)), (1, .int x1), (2, .int x2), (4, .int x4), (5, .int x5)]) hx hb dX12_applied_19 hl (by decide) rfl (fun ls hl => ?_)
        exact B21 (f_X12_applied_8 g a n) ih fu x1 x2 x4 x5 0 (x2 - 1) _ _ _ hP hS (lv_sub hl [2, 3, 4, 5, 6, 1, 0] rfl) hf
  refine lv_iconst (v := 0) hx hb dX12_applied_0 (by decide) ?_
  refine lv_istore (lv' := [(4, .int 0), (0, .ref (E.2.1 0)), (1, .int v1), (2, .int v2), (3, .int v3)]) hx hb dX12_applied_1 hl (by decide) rfl (fun ls hl => ?_)
  refine lv_iload_n hx hb dX12_applied_3 rfl (lv_at hl 4 rfl) ?_
  refine lv_iconst (v := 1) hx hb dX12_applied_4 (by decide) ?_
  refine lv_isub hx hb dX12_applied_5 ?_
  refine lv_istore (lv' := [(5, .int (v3 - 1)), (4, .int 0), (0, .ref (E.2.1 0)), (1, .int v1), (2, .int v2), (3, .int v3)]) hx hb dX12_applied_6 hl (by decide) rfl (fun ls hl => ?_)
  exact B8 fu v1 v2 0 (v3 - 1) _ _ _ hP hS (lv_sub hl [2, 3, 4, 1, 0] rfl) hf
