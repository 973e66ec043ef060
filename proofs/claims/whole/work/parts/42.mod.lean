/-! X12_closed, X12_comeTwo, X12_binary, X12_kept, X12_triesCode, X12_firstOfTwo, X12_triesVote, X12_firstVote, X12_firstConstant, X12_first, X12_endsOf, X12_ends, X12_core, X12_around -/
def f_X12_closed (g : xG) (a : xA) (v1 : Int32) (v2 : Int32) : Option (Int32 × xG × xA) := Option.bind (f_X12_areBoth g a v1 v2) (fun u1 => (if u1.1 = 0 then some (0, u1.2, a) else ck (inB v2 8) (ck (inB v2 8) (Option.bind (f_X12_closes u1.2 a v1 (a 1 (v2 : Int32).toNatClampNeg) (a 2 (v2 : Int32).toNatClampNeg)) (fun u6 => some (u6.1, u1.2, u6.2))))))
set_option maxRecDepth 100000 in
set_option maxHeartbeats 40000000 in
theorem c_X12_closed (l : Launch) (E : xE) (g : xG) (a : xA) (v1 : Int32) (v2 : Int32) {res : Int32 × xG × xA} (hf : f_X12_closed g a v1 v2 = some res) : xM l E yX12_closed cX12_closed 3 (some .int) 5 125 [.ref (E.2.1 0), .int v1, .int v2] (wM E g a) (xQi E res.1 (wM E res.2.1 res.2.2)) := by
  unfold f_X12_closed at hf
  refine xM_of (by decide) (Nat.le_of_ble_eq_true rfl) ?_
  intro p e s m below meth c A hx hb hr hml hts hown hlocks hA hD hP hK hN hS ls hl
  have hw : ∀ w ∈ BW, w.before _ s = true := fun w h => hts w (List.mem_cons_of_mem _ h)
  have C0 : xCtx E p m c cX12_closed 3 s _ RX12 A yX12_closed cX12_closed 3 (some .int) := ⟨hx, hb, hml, hown, hts, hA, hK, hN⟩
  have hl : lv_has ls 3 [(0, .ref (E.2.1 0)), (1, .int v1), (2, .int v2)] := hl
  refine lv_aload_n hx hb dX12_closed_0 rfl (lv_at hl 0 rfl) ?_
  refine lv_iload_n hx hb dX12_closed_1 rfl (lv_at hl 1 rfl) ?_
  refine lv_iload_n hx hb dX12_closed_2 rfl (lv_at hl 2 rfl) ?_
  obtain ⟨u1, e2, hf⟩ := bd_some hf
  refine xci (xRunV (rest := []) (As := [.int v1, .int v2]) (C := RX12) (k := 2) C0 (c_X12_areBoth l E g a v1 v2 e2) bw842 bw843 bw778 bw844 bw845 hd_X12_areBoth ⟨Nat.le_of_ble_eq_true rfl, Nat.le_of_ble_eq_true rfl⟩ hP (wM_D hD) hS (va_recv hK hP (ci := 12) rfl (gm_0 E g a)) rfl hl.1 rfl (Nat.le_of_ble_eq_true rfl) dX12_closed_3 ⟨Nat.zero_le _, Nat.zero_le _⟩) hS (fun H locs hP hS => ?_)
  refine lv_if_eq (tgt := 29) hx hb dX12_closed_6 (by decide) (fun c3 => ?_) (fun c3 => ?_)
  · replace hf := (if_pos c3).symm.trans hf
    refine lv_iconst (v := 0) hx hb dX12_closed_29 (by decide) ?_
    exact xi_retS (fr := (fun r => r.1)) (fw := (fun r => wM E r.2.1 r.2.2)) hx hb hr hlocks (Option.some.inj hf) hP hS dX12_closed_30
  · replace hf := (if_neg c3).symm.trans hf
    refine lv_aload_n hx hb dX12_closed_9 rfl (lv_at hl 0 rfl) ?_
    refine lv_iload_n hx hb dX12_closed_10 rfl (lv_at hl 1 rfl) ?_
    refine lv_aload_n hx hb dX12_closed_11 rfl (lv_at hl 0 rfl) ?_
    refine va_get (C := RX12) (T := TX12) (N := 22) hx hb hw bfX120 hown hK hP 0 (gm_0 E u1.2 a) rfl 2 (by decide) (hw _ bw756) (fun _ h9 => h9) rfl dX12_closed_12 ?_
    refine lv_iload_n hx hb dX12_closed_15 rfl (lv_at hl 2 rfl) ?_
    obtain ⟨k4, hf⟩ := ck_some hf
    refine va_iald hx hb hK hP 1 0 (gm_1 E u1.2 a) rfl (inB_in k4) dX12_closed_16 ?_
    refine lv_aload_n hx hb dX12_closed_17 rfl (lv_at hl 0 rfl) ?_
    refine va_get (C := RX12) (T := TX12) (N := 22) hx hb hw bfX120 hown hK hP 0 (gm_0 E u1.2 a) rfl 3 (by decide) (hw _ bw757) (fun _ h9 => h9) rfl dX12_closed_18 ?_
    refine lv_iload_n hx hb dX12_closed_21 rfl (lv_at hl 2 rfl) ?_
    obtain ⟨k5, hf⟩ := ck_some hf
    refine va_iald hx hb hK hP 2 0 (gm_2 E u1.2 a) rfl (inB_in k5) dX12_closed_22 ?_
    obtain ⟨u6, e7, hf⟩ := bd_some hf
    refine xci (xRunV (rest := []) (As := [.int v1, .int (a 1 (v2 : Int32).toNatClampNeg), .int (a 2 (v2 : Int32).toNatClampNeg)]) (C := RX12) (k := 3) C0 (c_X12_closes l E u1.2 a v1 (a 1 (v2 : Int32).toNatClampNeg) (a 2 (v2 : Int32).toNatClampNeg) e7) bw873 bw874 bw778 bw875 bw876 hd_X12_closes ⟨Nat.le_of_ble_eq_true rfl, Nat.le_of_ble_eq_true rfl⟩ hP (wM_D hD) hS (va_recv hK hP (ci := 12) rfl (gm_0 E u1.2 a)) rfl hl.1 rfl (Nat.le_of_ble_eq_true rfl) dX12_closed_23 ⟨Nat.zero_le _, Nat.zero_le _⟩) hS (fun H locs hP hS => ?_)
    refine lv_goto (tgt := 30) hx hb dX12_closed_26 (by decide) ?_
    exact xi_retS (fr := (fun r => r.1)) (fw := (fun r => wM E r.2.1 r.2.2)) hx hb hr hlocks (Option.some.inj hf) hP hS dX12_closed_30
def f_X12_comeTwo_79 (g : xG) (K39 : xA → Int32 → Int32 → Int32 → Int32 → Int32 → Int32 → Option (Int32 × xA)) (K65 : xA → Int32 → Int32 → Int32 → Int32 → Int32 → Int32 → Int32 → Int32 → Option (Int32 × xA)) : Nat → xA → Int32 → Int32 → Int32 → Int32 → Int32 → Int32 → Int32 → Int32 → Int32 → Int32 → Option (Int32 × xA)
  | 0, _, _, _, _, _, _, _, _, _, _, _ => none
  | n + 1, a, x1, x2, x3, x4, x5, x6, x7, x8, x9, x10 => (if x10 < 0 then ck (inB ((27 * x1) + x9) 189) (K65 a x1 x2 x3 x4 x5 x6 (x7 ||| (((a 4 (((27 * x1) + x9) : Int32).toNatClampNeg) : Int32) <<< (x8 &&& 31))) (x8 + 1)) else ck (inB x10 3) (f_X12_comeTwo_79 g K39 K65 n a x1 x2 x3 x4 x5 x6 x7 x8 ((2 * x9) + ((((a 11 (x10 : Int32).toNatClampNeg) : Int32) >>> (x8 &&& 31)) &&& 1)) (x10 + (-1))))
theorem e_X12_comeTwo_79 (g : xG) (K39 : xA → Int32 → Int32 → Int32 → Int32 → Int32 → Int32 → Option (Int32 × xA)) (K65 : xA → Int32 → Int32 → Int32 → Int32 → Int32 → Int32 → Int32 → Int32 → Option (Int32 × xA)) (n : Nat) (a : xA) (x1 : Int32) (x2 : Int32) (x3 : Int32) (x4 : Int32) (x5 : Int32) (x6 : Int32) (x7 : Int32) (x8 : Int32) (x9 : Int32) (x10 : Int32) : f_X12_comeTwo_79 g K39 K65 (n + 1) a x1 x2 x3 x4 x5 x6 x7 x8 x9 x10 = (if x10 < 0 then ck (inB ((27 * x1) + x9) 189) (K65 a x1 x2 x3 x4 x5 x6 (x7 ||| (((a 4 (((27 * x1) + x9) : Int32).toNatClampNeg) : Int32) <<< (x8 &&& 31))) (x8 + 1)) else ck (inB x10 3) (f_X12_comeTwo_79 g K39 K65 n a x1 x2 x3 x4 x5 x6 x7 x8 ((2 * x9) + ((((a 11 (x10 : Int32).toNatClampNeg) : Int32) >>> (x8 &&& 31)) &&& 1)) (x10 + (-1)))) := rfl
def f_X12_comeTwo_65 (g : xG) (K39 : xA → Int32 → Int32 → Int32 → Int32 → Int32 → Int32 → Option (Int32 × xA)) : Nat → xA → Int32 → Int32 → Int32 → Int32 → Int32 → Int32 → Int32 → Int32 → Option (Int32 × xA)
  | 0, _, _, _, _, _, _, _, _, _ => none
  | n + 1, a, x1, x2, x3, x4, x5, x6, x7, x8 => (if 4 ≤ x8 then K39 a x1 x2 x3 x4 (x5 ||| ((1 : Int32) <<< (x7 &&& 31))) (x6 + 1) else f_X12_comeTwo_79 g K39 (f_X12_comeTwo_65 g K39 n) fu a x1 x2 x3 x4 x5 x6 x7 x8 0 (x3 - 1))
theorem e_X12_comeTwo_65 (g : xG) (K39 : xA → Int32 → Int32 → Int32 → Int32 → Int32 → Int32 → Option (Int32 × xA)) (n : Nat) (a : xA) (x1 : Int32) (x2 : Int32) (x3 : Int32) (x4 : Int32) (x5 : Int32) (x6 : Int32) (x7 : Int32) (x8 : Int32) : f_X12_comeTwo_65 g K39 (n + 1) a x1 x2 x3 x4 x5 x6 x7 x8 = (if 4 ≤ x8 then K39 a x1 x2 x3 x4 (x5 ||| ((1 : Int32) <<< (x7 &&& 31))) (x6 + 1) else f_X12_comeTwo_79 g K39 (f_X12_comeTwo_65 g K39 n) fu a x1 x2 x3 x4 x5 x6 x7 x8 0 (x3 - 1)) := rfl
def f_X12_comeTwo_39 (g : xG) : Nat → xA → Int32 → Int32 → Int32 → Int32 → Int32 → Int32 → Option (Int32 × xA)
  | 0, _, _, _, _, _, _, _ => none
  | n + 1, a, x1, x2, x3, x4, x5, x6 => (if x4 ≤ x6 then some (x5, a) else Option.bind (f_X12_picksBy g a x6 x3 16 x2) (fun u5 => (if u5.1 = 0 then f_X12_comeTwo_39 g n u5.2 x1 x2 x3 x4 x5 (x6 + 1) else f_X12_comeTwo_65 g (f_X12_comeTwo_39 g n) fu u5.2 x1 x2 x3 x4 x5 x6 0 0)))
theorem e_X12_comeTwo_39 (g : xG) (n : Nat) (a : xA) (x1 : Int32) (x2 : Int32) (x3 : Int32) (x4 : Int32) (x5 : Int32) (x6 : Int32) : f_X12_comeTwo_39 g (n + 1) a x1 x2 x3 x4 x5 x6 = (if x4 ≤ x6 then some (x5, a) else Option.bind (f_X12_picksBy g a x6 x3 16 x2) (fun u5 => (if u5.1 = 0 then f_X12_comeTwo_39 g n u5.2 x1 x2 x3 x4 x5 (x6 + 1) else f_X12_comeTwo_65 g (f_X12_comeTwo_39 g n) fu u5.2 x1 x2 x3 x4 x5 x6 0 0))) := rfl
def f_X12_comeTwo (g : xG) (a : xA) (v1 : Int32) (v2 : Int32) : Option (Int32 × xA) := ck (inB v1 6) ((if (a 3 (v1 : Int32).toNatClampNeg) = 1 then f_X12_comeTwo_39 g fu a v1 v2 (a 3 (v1 : Int32).toNatClampNeg) 16 0 0 else (if (a 3 (v1 : Int32).toNatClampNeg) = 2 then f_X12_comeTwo_39 g fu a v1 v2 (a 3 (v1 : Int32).toNatClampNeg) 256 0 0 else f_X12_comeTwo_39 g fu a v1 v2 (a 3 (v1 : Int32).toNatClampNeg) 4096 0 0)))
set_option maxRecDepth 100000 in
set_option maxHeartbeats 40000000 in
theorem c_X12_comeTwo (l : Launch) (E : xE) (g : xG) (a : xA) (v1 : Int32) (v2 : Int32) {res : Int32 × xA} (hf : f_X12_comeTwo g a v1 v2 = some res) : xM l E yX12_comeTwo cX12_comeTwo 11 (some .int) 2 48 [.ref (E.2.1 0), .int v1, .int v2] (wM E g a) (xQi E res.1 (wM E g res.2)) := by
  unfold f_X12_comeTwo at hf
  refine xM_of (by decide) (Nat.le_of_ble_eq_true rfl) ?_
  intro p e s m below meth c A hx hb hr hml hts hown hlocks hA hD hP hK hN hS ls hl
  have hw : ∀ w ∈ BW, w.before _ s = true := fun w h => hts w (List.mem_cons_of_mem _ h)
  have C0 : xCtx E p m c cX12_comeTwo 11 s _ RX12 A yX12_comeTwo cX12_comeTwo 11 (some .int) := ⟨hx, hb, hml, hown, hts, hA, hK, hN⟩
  have hl : lv_has ls 11 [(0, .ref (E.2.1 0)), (1, .int v1), (2, .int v2)] := hl
  have B79 : ∀ (K39 : xA → Int32 → Int32 → Int32 → Int32 → Int32 → Int32 → Option (Int32 × xA)) (hK39 : ∀ (a : xA) (x1 : Int32) (x2 : Int32) (x3 : Int32) (x4 : Int32) (x5 : Int32) (x6 : Int32) (H : Heap) (locs : List Loc) (ls : Array Slot), va_P E.1 vwCl (wM E g a) H → va_S A s.heap H locs → lv_has ls 11 [(0, .ref (E.2.1 0)), (1, .int x1), (2, .int x2), (3, .int x3), (4, .int x4), (5, .int x5), (6, .int x6)] → K39 a x1 x2 x3 x4 x5 x6 = some res → W p l e ({ frames := 2, cells := 0, slots := 0, locals := 48 }) s m ([.ref (E.2.1 0), .int v1, .int v2] : List Value).toArray below meth c H locs 0 0 (MQ below ((xQi E res.1 (wM E g res.2)) A) ([.ref (E.2.1 0), .int v1, .int v2] : List Value).toArray s 0 0 A) (F0 m 39 ls [])) (K65 : xA → Int32 → Int32 → Int32 → Int32 → Int32 → Int32 → Int32 → Int32 → Option (Int32 × xA)) (hK65 : ∀ (a : xA) (x1 : Int32) (x2 : Int32) (x3 : Int32) (x4 : Int32) (x5 : Int32) (x6 : Int32) (x7 : Int32) (x8 : Int32) (H : Heap) (locs : List Loc) (ls : Array Slot), va_P E.1 vwCl (wM E g a) H → va_S A s.heap H locs → lv_has ls 11 [(0, .ref (E.2.1 0)), (1, .int x1), (2, .int x2), (3, .int x3), (4, .int x4), (5, .int x5), (6, .int x6), (7, .int x7), (8, .int x8)] → K65 a x1 x2 x3 x4 x5 x6 x7 x8 = some res → W p l e ({ frames := 2, cells := 0, slots := 0, locals := 48 }) s m ([.ref (E.2.1 0), .int v1, .int v2] : List Value).toArray below meth c H locs 0 0 (MQ below ((xQi E res.1 (wM E g res.2)) A) ([.ref (E.2.1 0), .int v1, .int v2] : List Value).toArray s 0 0 A) (F0 m 65 ls [])) (n : Nat) (a : xA) (x1 : Int32) (x2 : Int32) (x3 : Int32) (x4 : Int32) (x5 : Int32) (x6 : Int32) (x7 : Int32) (x8 : Int32) (x9 : Int32) (x10 : Int32) (H : Heap) (locs : List Loc) (ls : Array Slot), va_P E.1 vwCl (wM E g a) H → va_S A s.heap H locs → lv_has ls 11 [(0, .ref (E.2.1 0)), (1, .int x1), (2, .int x2), (3, .int x3), (4, .int x4), (5, .int x5), (6, .int x6), (7, .int x7), (8, .int x8), (9, .int x9), (10, .int x10)] → f_X12_comeTwo_79 g K39 K65 n a x1 x2 x3 x4 x5 x6 x7 x8 x9 x10 = some res → W p l e ({ frames := 2, cells := 0, slots := 0, locals := 48 }) s m ([.ref (E.2.1 0), .int v1, .int v2] : List Value).toArray below meth c H locs 0 0 (MQ below ((xQi E res.1 (wM E g res.2)) A) ([.ref (E.2.1 0), .int v1, .int v2] : List Value).toArray s 0 0 A) (F0 m 79 ls []) := by
    intro K39 hK39 K65 hK65 n
    induction n with
    | zero => intro a x1 x2 x3 x4 x5 x6 x7 x8 x9 x10 H locs ls hP hS hl hf; exact absurd (show (none : Option (Int32 × xA)) = some res from hf) (by intro h; cases h)
    | succ n ih =>
      intro a x1 x2 x3 x4 x5 x6 x7 x8 x9 x10 H locs ls hP hS hl hf
      replace hf := (e_X12_comeTwo_79 g K39 K65 n a x1 x2 x3 x4 x5 x6 x7 x8 x9 x10).symm.trans hf
      refine lv_iload hx hb dX12_comeTwo_79 (lv_at hl 10 rfl) ?_
      refine lv_if_lt (tgt := 109) hx hb dX12_comeTwo_81 (by decide) (fun c9 => ?_) (fun c9 => ?_)
      · replace hf := (if_pos c9).symm.trans hf
        refine lv_iload hx hb dX12_comeTwo_109 (lv_at hl 7 rfl) ?_
        refine lv_aload_n hx hb dX12_comeTwo_111 rfl (lv_at hl 0 rfl) ?_
        refine va_get (C := RX12) (T := TX12) (N := 22) hx hb hw bfX120 hown hK hP 0 (gm_0 E g a) rfl 6 (by decide) (hw _ bw759) (fun _ h9 => h9) rfl dX12_comeTwo_112 ?_
        refine lv_bipush (v := 27) hx hb dX12_comeTwo_115 (by decide) ?_
        refine lv_iload_n hx hb dX12_comeTwo_117 rfl (lv_at hl 1 rfl) ?_
        refine lv_imul hx hb dX12_comeTwo_118 ?_
        refine lv_iload hx hb dX12_comeTwo_119 (lv_at hl 9 rfl) ?_
        refine lv_iadd hx hb dX12_comeTwo_121 ?_
        obtain ⟨k10, hf⟩ := ck_some hf
        refine va_iald hx hb hK hP 4 0 (gm_4 E g a) rfl (inB_in k10) dX12_comeTwo_122 ?_
        refine lv_iload hx hb dX12_comeTwo_123 (lv_at hl 8 rfl) ?_
        refine lv_ishl hx hb dX12_comeTwo_125 ?_
        refine lv_ior hx hb dX12_comeTwo_126 ?_
        refine lv_istore (lv' := [(7, .int (x7 ||| (((a 4 (((27 * x1) + x9) : Int32).toNatClampNeg) : Int32) <<< (x8 &&& 31)))), (0, .ref (E.2.1 0)), (1, .int x1), (2, .int x2), (3, .int x3), (4, .int x4), (5, .int x5), (6, .int x6), (8, .int x8), (9, .int x9), (10, .int x10)]) hx hb dX12_comeTwo_127 hl (by decide) rfl (fun ls hl => ?_)
        refine lv_iinc (v := (x8 + 1)) (lv' := [(8, .int (x8 + 1)), (7, .int (x7 ||| (((a 4 (((27 * x1) + x9) : Int32).toNatClampNeg) : Int32) <<< (x8 &&& 31)))), (0, .ref (E.2.1 0)), (1, .int x1), (2, .int x2), (3, .int x3), (4, .int x4), (5, .int x5), (6, .int x6), (9, .int x9), (10, .int x10)]) hx hb dX12_comeTwo_129 hl (k := 8) rfl rfl (by decide) rfl (fun ls hl => ?_)
        refine lv_goto (tgt := 65) hx hb dX12_comeTwo_132 (by decide) ?_
        exact hK65 a x1 x2 x3 x4 x5 x6 (x7 ||| (((a 4 (((27 * x1) + x9) : Int32).toNatClampNeg) : Int32) <<< (x8 &&& 31))) (x8 + 1) _ _ _ hP hS (lv_sub hl [2, 3, 4, 5, 6, 7, 8, 1, 0] rfl) hf
      · replace hf := (if_neg c9).symm.trans hf
        refine lv_iconst (v := 2) hx hb dX12_comeTwo_84 (by decide) ?_
        refine lv_iload hx hb dX12_comeTwo_85 (lv_at hl 9 rfl) ?_
        refine lv_imul hx hb dX12_comeTwo_87 ?_
        refine lv_aload_n hx hb dX12_comeTwo_88 rfl (lv_at hl 0 rfl) ?_
        refine va_get (C := RX12) (T := TX12) (N := 22) hx hb hw bfX120 hown hK hP 0 (gm_0 E g a) rfl 18 (by decide) (hw _ bw767) (fun _ h9 => h9) rfl dX12_comeTwo_89 ?_
        refine lv_iload hx hb dX12_comeTwo_92 (lv_at hl 10 rfl) ?_
        obtain ⟨k11, hf⟩ := ck_some hf
        refine va_iald hx hb hK hP 11 0 (gm_11 E g a) rfl (inB_in k11) dX12_comeTwo_94 ?_
        refine lv_iload hx hb dX12_comeTwo_95 (lv_at hl 8 rfl) ?_
        refine lv_ishr hx hb dX12_comeTwo_97 ?_
        refine lv_iconst (v := 1) hx hb dX12_comeTwo_98 (by decide) ?_
        refine lv_iand hx hb dX12_comeTwo_99 ?_
        refine lv_iadd hx hb dX12_comeTwo_100 ?_
        refine lv_istore (lv' := [(9, .int ((2 * x9) + ((((a 11 (x10 : Int32).toNatClampNeg) : Int32) >>> (x8 &&& 31)) &&& 1))), (0, .ref (E.2.1 0)), (1, .int x1), (2, .int x2), (3, .int x3), (4, .int x4), (5, .int x5), (6, .int x6), (7, .int x7), (8, .int x8), (10, .int x10)]) hx hb dX12_comeTwo_101 hl (by decide) rfl (fun ls hl => ?_)
        refine lv_iinc (v := (x10 + (-1))) (lv' := [(10, .int (x10 + (-1))), (9, .int ((2 * x9) + ((((a 11 (x10 : Int32).toNatClampNeg) : Int32) >>> (x8 &&& 31)) &&& 1))), (0, .ref (E.2.1 0)), (1, .int x1), (2, .int x2), (3, .int x3), (4, .int x4), (5, .int x5), (6, .int x6), (7, .int x7), (8, .int x8)]) hx hb dX12_comeTwo_103 hl (k := 10) rfl rfl (by decide) rfl (fun ls hl => ?_)
        refine lv_goto (tgt := 79) hx hb dX12_comeTwo_106 (by decide) ?_
        exact ih a x1 x2 x3 x4 x5 x6 x7 x8 ((2 * x9) + ((((a 11 (x10 : Int32).toNatClampNeg) : Int32) >>> (x8 &&& 31)) &&& 1)) (x10 + (-1)) _ _ _ hP hS (lv_sub hl [2, 3, 4, 5, 6, 7, 8, 9, 10, 1, 0] rfl) hf
  have B65 : ∀ (K39 : xA → Int32 → Int32 → Int32 → Int32 → Int32 → Int32 → Option (Int32 × xA)) (hK39 : ∀ (a : xA) (x1 : Int32) (x2 : Int32) (x3 : Int32) (x4 : Int32) (x5 : Int32) (x6 : Int32) (H : Heap) (locs : List Loc) (ls : Array Slot), va_P E.1 vwCl (wM E g a) H → va_S A s.heap H locs → lv_has ls 11 [(0, .ref (E.2.1 0)), (1, .int x1), (2, .int x2), (3, .int x3), (4, .int x4), (5, .int x5), (6, .int x6)] → K39 a x1 x2 x3 x4 x5 x6 = some res → W p l e ({ frames := 2, cells := 0, slots := 0, locals := 48 }) s m ([.ref (E.2.1 0), .int v1, .int v2] : List Value).toArray below meth c H locs 0 0 (MQ below ((xQi E res.1 (wM E g res.2)) A) ([.ref (E.2.1 0), .int v1, .int v2] : List Value).toArray s 0 0 A) (F0 m 39 ls [])) (n : Nat) (a : xA) (x1 : Int32) (x2 : Int32) (x3 : Int32) (x4 : Int32) (x5 : Int32) (x6 : Int32) (x7 : Int32) (x8 : Int32) (H : Heap) (locs : List Loc) (ls : Array Slot), va_P E.1 vwCl (wM E g a) H → va_S A s.heap H locs → lv_has ls 11 [(0, .ref (E.2.1 0)), (1, .int x1), (2, .int x2), (3, .int x3), (4, .int x4), (5, .int x5), (6, .int x6), (7, .int x7), (8, .int x8)] → f_X12_comeTwo_65 g K39 n a x1 x2 x3 x4 x5 x6 x7 x8 = some res → W p l e ({ frames := 2, cells := 0, slots := 0, locals := 48 }) s m ([.ref (E.2.1 0), .int v1, .int v2] : List Value).toArray below meth c H locs 0 0 (MQ below ((xQi E res.1 (wM E g res.2)) A) ([.ref (E.2.1 0), .int v1, .int v2] : List Value).toArray s 0 0 A) (F0 m 65 ls []) := by
    intro K39 hK39 n
    induction n with
    | zero => intro a x1 x2 x3 x4 x5 x6 x7 x8 H locs ls hP hS hl hf; exact absurd (show (none : Option (Int32 × xA)) = some res from hf) (by intro h; cases h)
    | succ n ih =>
      intro a x1 x2 x3 x4 x5 x6 x7 x8 H locs ls hP hS hl hf
      replace hf := (e_X12_comeTwo_65 g K39 n a x1 x2 x3 x4 x5 x6 x7 x8).symm.trans hf
      refine lv_iload hx hb dX12_comeTwo_65 (lv_at hl 8 rfl) ?_
      refine lv_iconst (v := 4) hx hb dX12_comeTwo_67 (by decide) ?_
      refine lv_icmp_ge (tgt := 135) hx hb dX12_comeTwo_68 (by decide) (fun c8 => ?_) (fun c8 => ?_)
      · replace hf := (if_pos c8).symm.trans hf
        refine lv_iload hx hb dX12_comeTwo_135 (lv_at hl 5 rfl) ?_
        refine lv_iconst (v := 1) hx hb dX12_comeTwo_137 (by decide) ?_
        refine lv_iload hx hb dX12_comeTwo_138 (lv_at hl 7 rfl) ?_
        refine lv_ishl hx hb dX12_comeTwo_140 ?_
        refine lv_ior hx hb dX12_comeTwo_141 ?_
        refine lv_istore (lv' := [(5, .int (x5 ||| ((1 : Int32) <<< (x7 &&& 31)))), (0, .ref (E.2.1 0)), (1, .int x1), (2, .int x2), (3, .int x3), (4, .int x4), (6, .int x6), (7, .int x7), (8, .int x8)]) hx hb dX12_comeTwo_142 hl (by decide) rfl (fun ls hl => ?_)
        refine lv_iinc (v := (x6 + 1)) (lv' := [(6, .int (x6 + 1)), (5, .int (x5 ||| ((1 : Int32) <<< (x7 &&& 31)))), (0, .ref (E.2.1 0)), (1, .int x1), (2, .int x2), (3, .int x3), (4, .int x4), (7, .int x7), (8, .int x8)]) hx hb dX12_comeTwo_144 hl (k := 6) rfl rfl (by decide) rfl (fun ls hl => ?_)
        refine lv_goto (tgt := 39) hx hb dX12_comeTwo_147 (by decide) ?_
        exact hK39 a x1 x2 x3 x4 (x5 ||| ((1 : Int32) <<< (x7 &&& 31))) (x6 + 1) _ _ _ hP hS (lv_sub hl [2, 3, 4, 5, 6, 1, 0] rfl) hf
      · replace hf := (if_neg c8).symm.trans hf
        refine lv_iconst (v := 0) hx hb dX12_comeTwo_71 (by decide) ?_
        refine lv_istore (lv' := [(9, .int 0), (0, .ref (E.2.1 0)), (1, .int x1), (2, .int x2), (3, .int x3), (4, .int x4), (5, .int x5), (6, .int x6), (7, .int x7), (8, .int x8)]) hx hb dX12_comeTwo_72 hl (by decide) rfl (fun ls hl => ?_)
        refine lv_iload_n hx hb dX12_comeTwo_74 rfl (lv_at hl 4 rfl) ?_
        refine lv_iconst (v := 1) hx hb dX12_comeTwo_75 (by decide) ?_
        refine lv_isub hx hb dX12_comeTwo_76 ?_
        refine lv_istore (lv' := [(10, .int (x3 - 1)), (9, .int 0), (0, .ref (E.2.1 0)), (1, .int x1), (2, .int x2), (3, .int x3), (4, .int x4), (5, .int x5), (6, .int x6), (7, .int x7), (8, .int x8)]) hx hb dX12_comeTwo_77 hl (by decide) rfl (fun ls hl => ?_)
        exact B79 K39 hK39 (f_X12_comeTwo_65 g K39 n) ih fu a x1 x2 x3 x4 x5 x6 x7 x8 0 (x3 - 1) _ _ _ hP hS (lv_sub hl [2, 3, 4, 5, 6, 7, 8, 9, 10, 1, 0] rfl) hf
  have B39 : ∀ (n : Nat) (a : xA) (x1 : Int32) (x2 : Int32) (x3 : Int32) (x4 : Int32) (x5 : Int32) (x6 : Int32) (H : Heap) (locs : List Loc) (ls : Array Slot), va_P E.1 vwCl (wM E g a) H → va_S A s.heap H locs → lv_has ls 11 [(0, .ref (E.2.1 0)), (1, .int x1), (2, .int x2), (3, .int x3), (4, .int x4), (5, .int x5), (6, .int x6)] → f_X12_comeTwo_39 g n a x1 x2 x3 x4 x5 x6 = some res → W p l e ({ frames := 2, cells := 0, slots := 0, locals := 48 }) s m ([.ref (E.2.1 0), .int v1, .int v2] : List Value).toArray below meth c H locs 0 0 (MQ below ((xQi E res.1 (wM E g res.2)) A) ([.ref (E.2.1 0), .int v1, .int v2] : List Value).toArray s 0 0 A) (F0 m 39 ls []) := by
    intro n
    induction n with
    | zero => intro a x1 x2 x3 x4 x5 x6 H locs ls hP hS hl hf; exact absurd (show (none : Option (Int32 × xA)) = some res from hf) (by intro h; cases h)
    | succ n ih =>
      intro a x1 x2 x3 x4 x5 x6 H locs ls hP hS hl hf
      replace hf := (e_X12_comeTwo_39 g n a x1 x2 x3 x4 x5 x6).symm.trans hf
      refine lv_iload hx hb dX12_comeTwo_39 (lv_at hl 6 rfl) ?_
      refine lv_iload hx hb dX12_comeTwo_41 (lv_at hl 4 rfl) ?_
      refine lv_icmp_ge (tgt := 150) hx hb dX12_comeTwo_43 (by decide) (fun c4 => ?_) (fun c4 => ?_)
      · replace hf := (if_pos c4).symm.trans hf
        refine lv_iload hx hb dX12_comeTwo_150 (lv_at hl 5 rfl) ?_
        exact xi_retS (fr := (fun r => r.1)) (fw := (fun r => wM E g r.2)) hx hb hr hlocks (Option.some.inj hf) hP hS dX12_comeTwo_152
      · replace hf := (if_neg c4).symm.trans hf
        refine lv_aload_n hx hb dX12_comeTwo_46 rfl (lv_at hl 0 rfl) ?_
        refine lv_iload hx hb dX12_comeTwo_47 (lv_at hl 6 rfl) ?_
        refine lv_iload_n hx hb dX12_comeTwo_49 rfl (lv_at hl 3 rfl) ?_
        refine lv_bipush (v := 16) hx hb dX12_comeTwo_50 (by decide) ?_
        refine lv_iload_n hx hb dX12_comeTwo_52 rfl (lv_at hl 2 rfl) ?_
        obtain ⟨u5, e6, hf⟩ := bd_some hf
        refine xci (xRunV (rest := []) (As := [.int x6, .int x3, .int 16, .int x2]) (C := RX12) (k := 4) C0 (c_X12_picksBy l E g a x6 x3 16 x2 e6) bw826 bw828 bw778 bw829 bw830 hd_X12_picksBy ⟨Nat.le_of_ble_eq_true rfl, Nat.le_of_ble_eq_true rfl⟩ hP (wM_D hD) hS (va_recv hK hP (ci := 12) rfl (gm_0 E g a)) rfl hl.1 rfl (Nat.le_of_ble_eq_true rfl) dX12_comeTwo_53 ⟨Nat.zero_le _, Nat.zero_le _⟩) hS (fun H locs hP hS => ?_)
        refine lv_if_eq (tgt := 144) hx hb dX12_comeTwo_56 (by decide) (fun c7 => ?_) (fun c7 => ?_)
        · replace hf := (if_pos c7).symm.trans hf
          refine lv_iinc (v := (x6 + 1)) (lv' := [(6, .int (x6 + 1)), (0, .ref (E.2.1 0)), (1, .int x1), (2, .int x2), (3, .int x3), (4, .int x4), (5, .int x5)]) hx hb dX12_comeTwo_144 hl (k := 6) rfl rfl (by decide) rfl (fun ls hl => ?_)
          refine lv_goto (tgt := 39) hx hb dX12_comeTwo_147 (by decide) ?_
          exact ih u5.2 x1 x2 x3 x4 x5 (x6 + 1) _ _ _ hP hS (lv_sub hl [1, 2, 3, 4, 5, 6, 0] rfl) hf
        · replace hf := (if_neg c7).symm.trans hf
          refine lv_iconst (v := 0) hx hb dX12_comeTwo_59 (by decide) ?_
          refine lv_istore (lv' := [(7, .int 0), (0, .ref (E.2.1 0)), (1, .int x1), (2, .int x2), (3, .int x3), (4, .int x4), (5, .int x5), (6, .int x6)]) hx hb dX12_comeTwo_60 hl (by decide) rfl (fun ls hl => ?_)
          refine lv_iconst (v := 0) hx hb dX12_comeTwo_62 (by decide) ?_
          refine lv_istore (lv' := [(8, .int 0), (7, .int 0), (0, .ref (E.2.1 0)), (1, .int x1), (2, .int x2), (3, .int x3), (4, .int x4), (5, .int x5), (6, .int x6)]) hx hb dX12_comeTwo_63 hl (by decide) rfl (fun ls hl => ?_)
          exact B65 (f_X12_comeTwo_39 g n) ih fu u5.2 x1 x2 x3 x4 x5 x6 0 0 _ _ _ hP hS (lv_sub hl [2, 3, 4, 5, 6, 7, 8, 1, 0] rfl) hf
  refine lv_aload_n hx hb dX12_comeTwo_0 rfl (lv_at hl 0 rfl) ?_
  refine va_get (C := RX12) (T := TX12) (N := 22) hx hb hw bfX120 hown hK hP 0 (gm_0 E g a) rfl 5 (by decide) (hw _ bw758) (fun _ h9 => h9) rfl dX12_comeTwo_1 ?_
  refine lv_iload_n hx hb dX12_comeTwo_4 rfl (lv_at hl 1 rfl) ?_
  obtain ⟨k1, hf⟩ := ck_some hf
  refine va_iald hx hb hK hP 3 0 (gm_3 E g a) rfl (inB_in k1) dX12_comeTwo_5 ?_
  refine lv_istore_n (lv' := [(3, .int (a 3 (v1 : Int32).toNatClampNeg)), (0, .ref (E.2.1 0)), (1, .int v1), (2, .int v2)]) hx hb dX12_comeTwo_6 rfl hl (by decide) rfl (fun ls hl => ?_)
  refine lv_iload_n hx hb dX12_comeTwo_7 rfl (lv_at hl 0 rfl) ?_
  refine lv_iconst (v := 1) hx hb dX12_comeTwo_8 (by decide) ?_
  refine lv_icmp_ne (tgt := 17) hx hb dX12_comeTwo_9 (by decide) (fun c2 => ?_) (fun c2 => ?_)
  · replace hf := (if_neg c2).symm.trans hf
    refine lv_iload_n hx hb dX12_comeTwo_17 rfl (lv_at hl 0 rfl) ?_
    refine lv_iconst (v := 2) hx hb dX12_comeTwo_18 (by decide) ?_
    refine lv_icmp_ne (tgt := 28) hx hb dX12_comeTwo_19 (by decide) (fun c3 => ?_) (fun c3 => ?_)
    · replace hf := (if_neg c3).symm.trans hf
      refine lv_sipush (v := 4096) hx hb dX12_comeTwo_28 (by decide) ?_
      refine lv_istore (lv' := [(4, .int 4096), (3, .int (a 3 (v1 : Int32).toNatClampNeg)), (0, .ref (E.2.1 0)), (1, .int v1), (2, .int v2)]) hx hb dX12_comeTwo_31 hl (by decide) rfl (fun ls hl => ?_)
      refine lv_iconst (v := 0) hx hb dX12_comeTwo_33 (by decide) ?_
      refine lv_istore (lv' := [(5, .int 0), (4, .int 4096), (3, .int (a 3 (v1 : Int32).toNatClampNeg)), (0, .ref (E.2.1 0)), (1, .int v1), (2, .int v2)]) hx hb dX12_comeTwo_34 hl (by decide) rfl (fun ls hl => ?_)
      refine lv_iconst (v := 0) hx hb dX12_comeTwo_36 (by decide) ?_
      refine lv_istore (lv' := [(6, .int 0), (5, .int 0), (4, .int 4096), (3, .int (a 3 (v1 : Int32).toNatClampNeg)), (0, .ref (E.2.1 0)), (1, .int v1), (2, .int v2)]) hx hb dX12_comeTwo_37 hl (by decide) rfl (fun ls hl => ?_)
      exact B39 fu a v1 v2 (a 3 (v1 : Int32).toNatClampNeg) 4096 0 0 _ _ _ hP hS (lv_sub hl [4, 5, 6, 3, 2, 1, 0] rfl) hf
    · replace hf := (if_pos c3).symm.trans hf
      refine lv_sipush (v := 256) hx hb dX12_comeTwo_22 (by decide) ?_
      refine lv_goto (tgt := 31) hx hb dX12_comeTwo_25 (by decide) ?_
      refine lv_istore (lv' := [(4, .int 256), (3, .int (a 3 (v1 : Int32).toNatClampNeg)), (0, .ref (E.2.1 0)), (1, .int v1), (2, .int v2)]) hx hb dX12_comeTwo_31 hl (by decide) rfl (fun ls hl => ?_)
      refine lv_iconst (v := 0) hx hb dX12_comeTwo_33 (by decide) ?_
      refine lv_istore (lv' := [(5, .int 0), (4, .int 256), (3, .int (a 3 (v1 : Int32).toNatClampNeg)), (0, .ref (E.2.1 0)), (1, .int v1), (2, .int v2)]) hx hb dX12_comeTwo_34 hl (by decide) rfl (fun ls hl => ?_)
      refine lv_iconst (v := 0) hx hb dX12_comeTwo_36 (by decide) ?_
      refine lv_istore (lv' := [(6, .int 0), (5, .int 0), (4, .int 256), (3, .int (a 3 (v1 : Int32).toNatClampNeg)), (0, .ref (E.2.1 0)), (1, .int v1), (2, .int v2)]) hx hb dX12_comeTwo_37 hl (by decide) rfl (fun ls hl => ?_)
      exact B39 fu a v1 v2 (a 3 (v1 : Int32).toNatClampNeg) 256 0 0 _ _ _ hP hS (lv_sub hl [4, 5, 6, 3, 2, 1, 0] rfl) hf
  · replace hf := (if_pos c2).symm.trans hf
    refine lv_bipush (v := 16) hx hb dX12_comeTwo_12 (by decide) ?_
    refine lv_goto (tgt := 31) hx hb dX12_comeTwo_14 (by decide) ?_
    refine lv_istore (lv' := [(4, .int 16), (3, .int (a 3 (v1 : Int32).toNatClampNeg)), (0, .ref (E.2.1 0)), (1, .int v1), (2, .int v2)]) hx hb dX12_comeTwo_31 hl (by decide) rfl (fun ls hl => ?_)
    refine lv_iconst (v := 0) hx hb dX12_comeTwo_33 (by decide) ?_
    refine lv_istore (lv' := [(5, .int 0), (4, .int 16), (3, .int (a 3 (v1 : Int32).toNatClampNeg)), (0, .ref (E.2.1 0)), (1, .int v1), (2, .int v2)]) hx hb dX12_comeTwo_34 hl (by decide) rfl (fun ls hl => ?_)
    refine lv_iconst (v := 0) hx hb dX12_comeTwo_36 (by decide) ?_
    refine lv_istore (lv' := [(6, .int 0), (5, .int 0), (4, .int 16), (3, .int (a 3 (v1 : Int32).toNatClampNeg)), (0, .ref (E.2.1 0)), (1, .int v1), (2, .int v2)]) hx hb dX12_comeTwo_37 hl (by decide) rfl (fun ls hl => ?_)
    exact B39 fu a v1 v2 (a 3 (v1 : Int32).toNatClampNeg) 16 0 0 _ _ _ hP hS (lv_sub hl [4, 5, 6, 3, 2, 1, 0] rfl) hf
def f_X12_binary_41 (K32 : xG → xA → Int32 → Int32 → Option (Int32 × xG × xA)) : Nat → xG → xA → Int32 → Int32 → Int32 → Option (Int32 × xG × xA)
  | 0, _, _, _, _, _ => none
  | n + 1, g, a, x1, x2, x3 => (if (g 2) ≤ x3 then K32 g a x1 x2 else Option.bind (f_X12_comeTwo g a x3 x2) (fun u5 => f_X12_binary_41 K32 n g u5.2 (x1 ||| u5.1) x2 (x3 + 1)))
theorem e_X12_binary_41 (K32 : xG → xA → Int32 → Int32 → Option (Int32 × xG × xA)) (n : Nat) (g : xG) (a : xA) (x1 : Int32) (x2 : Int32) (x3 : Int32) : f_X12_binary_41 K32 (n + 1) g a x1 x2 x3 = (if (g 2) ≤ x3 then K32 g a x1 x2 else Option.bind (f_X12_comeTwo g a x3 x2) (fun u5 => f_X12_binary_41 K32 n g u5.2 (x1 ||| u5.1) x2 (x3 + 1))) := rfl
def f_X12_binary_32 : Nat → xG → xA → Int32 → Int32 → Option (Int32 × xG × xA)
  | 0, _, _, _, _ => none
  | n + 1, g, a, x1, x2 => (if x1 = x2 then some (x1, g, a) else f_X12_binary_41 (f_X12_binary_32 n) fu g a x1 x1 0)
theorem e_X12_binary_32 (n : Nat) (g : xG) (a : xA) (x1 : Int32) (x2 : Int32) : f_X12_binary_32 (n + 1) g a x1 x2 = (if x1 = x2 then some (x1, g, a) else f_X12_binary_41 (f_X12_binary_32 n) fu g a x1 x1 0) := rfl
def f_X12_binary_14 (g : xG) (a : xA) (s0 : Int32) : Option (Int32 × xG × xA) := (if ((upd g 8 s0) 8) ≤ 0 then f_X12_binary_32 fu (upd g 8 s0) a 5120 0 else some (0, (upd g 8 s0), a))
def f_X12_binary (g : xG) (a : xA) : Option (Int32 × xG × xA) := (if (g 0) = 3 then f_X12_binary_14 g a 1 else f_X12_binary_14 g a 0)
set_option maxRecDepth 100000 in
set_option maxHeartbeats 40000000 in
theorem c_X12_binary (l : Launch) (E : xE) (g : xG) (a : xA) {res : Int32 × xG × xA} (hf : f_X12_binary g a = some res) : xM l E yX12_binary cX12_binary 4 (some .int) 3 78 [.ref (E.2.1 0)] (wM E g a) (xQi E res.1 (wM E res.2.1 res.2.2)) := by
  unfold f_X12_binary at hf
  refine xM_of (by decide) (Nat.le_of_ble_eq_true rfl) ?_
  intro p e s m below meth c A hx hb hr hml hts hown hlocks hA hD hP hK hN hS ls hl
  have hw : ∀ w ∈ BW, w.before _ s = true := fun w h => hts w (List.mem_cons_of_mem _ h)
  have C0 : xCtx E p m c cX12_binary 4 s _ RX12 A yX12_binary cX12_binary 4 (some .int) := ⟨hx, hb, hml, hown, hts, hA, hK, hN⟩
  have hl : lv_has ls 4 [(0, .ref (E.2.1 0))] := hl
  have B41 : ∀ (K32 : xG → xA → Int32 → Int32 → Option (Int32 × xG × xA)) (hK32 : ∀ (g : xG) (a : xA) (x1 : Int32) (x2 : Int32) (H : Heap) (locs : List Loc) (ls : Array Slot), va_P E.1 vwCl (wM E g a) H → va_S A s.heap H locs → lv_has ls 4 [(0, .ref (E.2.1 0)), (1, .int x1), (2, .int x2)] → K32 g a x1 x2 = some res → W p l e ({ frames := 3, cells := 0, slots := 0, locals := 78 }) s m ([.ref (E.2.1 0)] : List Value).toArray below meth c H locs 0 0 (MQ below ((xQi E res.1 (wM E res.2.1 res.2.2)) A) ([.ref (E.2.1 0)] : List Value).toArray s 0 0 A) (F0 m 32 ls [])) (n : Nat) (g : xG) (a : xA) (x1 : Int32) (x2 : Int32) (x3 : Int32) (H : Heap) (locs : List Loc) (ls : Array Slot), va_P E.1 vwCl (wM E g a) H → va_S A s.heap H locs → lv_has ls 4 [(0, .ref (E.2.1 0)), (1, .int x1), (2, .int x2), (3, .int x3)] → f_X12_binary_41 K32 n g a x1 x2 x3 = some res → W p l e ({ frames := 3, cells := 0, slots := 0, locals := 78 }) s m ([.ref (E.2.1 0)] : List Value).toArray below meth c H locs 0 0 (MQ below ((xQi E res.1 (wM E res.2.1 res.2.2)) A) ([.ref (E.2.1 0)] : List Value).toArray s 0 0 A) (F0 m 41 ls []) := by
    intro K32 hK32 n
    induction n with
    | zero => intro g a x1 x2 x3 H locs ls hP hS hl hf; exact absurd (show (none : Option (Int32 × xG × xA)) = some res from hf) (by intro h; cases h)
    | succ n ih =>
      intro g a x1 x2 x3 H locs ls hP hS hl hf
      replace hf := (e_X12_binary_41 K32 n g a x1 x2 x3).symm.trans hf
      refine lv_iload_n hx hb dX12_binary_41 rfl (lv_at hl 3 rfl) ?_
      refine lv_aload_n hx hb dX12_binary_42 rfl (lv_at hl 0 rfl) ?_
      refine va_get (C := RX12) (T := TX12) (N := 22) hx hb hw bfX120 hown hK hP 0 (gm_0 E g a) rfl 4 (by decide) (hw _ bw783) (fun _ h9 => h9) rfl dX12_binary_43 ?_
      refine lv_icmp_ge (tgt := 64) hx hb dX12_binary_46 (by decide) (fun c4 => ?_) (fun c4 => ?_)
      · replace hf := (if_pos c4).symm.trans hf
        refine lv_goto (tgt := 32) hx hb dX12_binary_64 (by decide) ?_
        exact hK32 g a x1 x2 _ _ _ hP hS (lv_sub hl [0, 1, 2] rfl) hf
      · replace hf := (if_neg c4).symm.trans hf
        refine lv_iload_n hx hb dX12_binary_49 rfl (lv_at hl 1 rfl) ?_
        refine lv_aload_n hx hb dX12_binary_50 rfl (lv_at hl 0 rfl) ?_
        refine lv_iload_n hx hb dX12_binary_51 rfl (lv_at hl 3 rfl) ?_
        refine lv_iload_n hx hb dX12_binary_52 rfl (lv_at hl 2 rfl) ?_
        obtain ⟨u5, e6, hf⟩ := bd_some hf
        refine xci (xRunV (rest := [.int x1]) (As := [.int x3, .int x2]) (C := RX12) (k := 2) C0 (c_X12_comeTwo l E g a x3 x2 e6) bw879 bw881 bw778 bw882 bw883 hd_X12_comeTwo ⟨Nat.le_of_ble_eq_true rfl, Nat.le_of_ble_eq_true rfl⟩ hP (wM_D hD) hS (va_recv hK hP (ci := 12) rfl (gm_0 E g a)) rfl hl.1 rfl (Nat.le_of_ble_eq_true rfl) dX12_binary_53 ⟨Nat.zero_le _, Nat.zero_le _⟩) hS (fun H locs hP hS => ?_)
        refine lv_ior hx hb dX12_binary_56 ?_
        refine lv_istore_n (lv' := [(1, .int (x1 ||| u5.1)), (0, .ref (E.2.1 0)), (2, .int x2), (3, .int x3)]) hx hb dX12_binary_57 rfl hl (by decide) rfl (fun ls hl => ?_)
        refine lv_iinc (v := (x3 + 1)) (lv' := [(3, .int (x3 + 1)), (1, .int (x1 ||| u5.1)), (0, .ref (E.2.1 0)), (2, .int x2)]) hx hb dX12_binary_58 hl (k := 3) rfl rfl (by decide) rfl (fun ls hl => ?_)
        refine lv_goto (tgt := 41) hx hb dX12_binary_61 (by decide) ?_
        exact ih g u5.2 (x1 ||| u5.1) x2 (x3 + 1) _ _ _ hP hS (lv_sub hl [2, 1, 3, 0] rfl) hf
  have B32 : ∀ (n : Nat) (g : xG) (a : xA) (x1 : Int32) (x2 : Int32) (H : Heap) (locs : List Loc) (ls : Array Slot), va_P E.1 vwCl (wM E g a) H → va_S A s.heap H locs → lv_has ls 4 [(0, .ref (E.2.1 0)), (1, .int x1), (2, .int x2)] → f_X12_binary_32 n g a x1 x2 = some res → W p l e ({ frames := 3, cells := 0, slots := 0, locals := 78 }) s m ([.ref (E.2.1 0)] : List Value).toArray below meth c H locs 0 0 (MQ below ((xQi E res.1 (wM E res.2.1 res.2.2)) A) ([.ref (E.2.1 0)] : List Value).toArray s 0 0 A) (F0 m 32 ls []) := by
    intro n
    induction n with
    | zero => intro g a x1 x2 H locs ls hP hS hl hf; exact absurd (show (none : Option (Int32 × xG × xA)) = some res from hf) (by intro h; cases h)
    | succ n ih =>
      intro g a x1 x2 H locs ls hP hS hl hf
      replace hf := (e_X12_binary_32 n g a x1 x2).symm.trans hf
      refine lv_iload_n hx hb dX12_binary_32 rfl (lv_at hl 1 rfl) ?_
      refine lv_iload_n hx hb dX12_binary_33 rfl (lv_at hl 2 rfl) ?_
      refine lv_icmp_eq (tgt := 67) hx hb dX12_binary_34 (by decide) (fun c3 => ?_) (fun c3 => ?_)
      · replace hf := (if_pos c3).symm.trans hf
        refine lv_iload_n hx hb dX12_binary_67 rfl (lv_at hl 1 rfl) ?_
        exact xi_retS (fr := (fun r => r.1)) (fw := (fun r => wM E r.2.1 r.2.2)) hx hb hr hlocks (Option.some.inj hf) hP hS dX12_binary_68
      · replace hf := (if_neg c3).symm.trans hf
        refine lv_iload_n hx hb dX12_binary_37 rfl (lv_at hl 1 rfl) ?_
        refine lv_istore_n (lv' := [(2, .int x1), (0, .ref (E.2.1 0)), (1, .int x1)]) hx hb dX12_binary_38 rfl hl (by decide) rfl (fun ls hl => ?_)
        refine lv_iconst (v := 0) hx hb dX12_binary_39 (by decide) ?_
        refine lv_istore_n (lv' := [(3, .int 0), (2, .int x1), (0, .ref (E.2.1 0)), (1, .int x1)]) hx hb dX12_binary_40 rfl hl (by decide) rfl (fun ls hl => ?_)
        exact B41 (f_X12_binary_32 n) ih fu g a x1 x1 0 _ _ _ hP hS (lv_sub hl [2, 3, 1, 0] rfl) hf
  have B14 : ∀ (g : xG) (a : xA) (s0 : Int32) (H : Heap) (locs : List Loc) (ls : Array Slot), va_P E.1 vwCl (wM E g a) H → va_S A s.heap H locs → lv_has ls 4 [(0, .ref (E.2.1 0))] → f_X12_binary_14 g a s0 = some res → W p l e ({ frames := 3, cells := 0, slots := 0, locals := 78 }) s m ([.ref (E.2.1 0)] : List Value).toArray below meth c H locs 0 0 (MQ below ((xQi E res.1 (wM E res.2.1 res.2.2)) A) ([.ref (E.2.1 0)] : List Value).toArray s 0 0 A) (F0 m 14 ls [.int s0, .ref (E.2.1 0)]) := by
    intro g a s0 H locs ls hP hS hl hf
    unfold f_X12_binary_14 at hf
    refine va_put (v := .int s0) (ty := .int) (C := RX12) (T := TX12) (N := 22) hx hb hw bfX120 tyX12 tyX12_ok nmX12 hown hK hP (wM_D hD) hS 0 (gm_0 E g a) rfl 21 (by decide) (hw _ bw771) (fun _ h9 => h9) rfl (by decide +kernel) rfl rfl (Nat.le_of_ble_eq_true rfl) dX12_binary_14 (fun H locs hP _ hS => ?_)
    have hP := xP_eq (sm_g8 E g a s0) hP
    refine lv_aload_n hx hb dX12_binary_17 rfl (lv_at hl 0 rfl) ?_
    refine va_get (C := RX12) (T := TX12) (N := 22) hx hb hw bfX120 hown hK hP 0 (gm_0 E (upd g 8 s0) a) rfl 21 (by decide) (hw _ bw771) (fun _ h9 => h9) rfl dX12_binary_18 ?_
    refine lv_if_le (tgt := 26) hx hb dX12_binary_21 (by decide) (fun c2 => ?_) (fun c2 => ?_)
    · replace hf := (if_pos c2).symm.trans hf
      refine lv_sipush (v := 5120) hx hb dX12_binary_26 (by decide) ?_
      refine lv_istore_n (lv' := [(1, .int 5120), (0, .ref (E.2.1 0))]) hx hb dX12_binary_29 rfl hl (by decide) rfl (fun ls hl => ?_)
      refine lv_iconst (v := 0) hx hb dX12_binary_30 (by decide) ?_
      refine lv_istore_n (lv' := [(2, .int 0), (1, .int 5120), (0, .ref (E.2.1 0))]) hx hb dX12_binary_31 rfl hl (by decide) rfl (fun ls hl => ?_)
      exact B32 fu (upd g 8 s0) a 5120 0 _ _ _ hP hS (lv_sub hl [2, 1, 0] rfl) hf
    · replace hf := (if_neg c2).symm.trans hf
      refine lv_iconst (v := 0) hx hb dX12_binary_24 (by decide) ?_
      exact xi_retS (fr := (fun r => r.1)) (fw := (fun r => wM E r.2.1 r.2.2)) hx hb hr hlocks (Option.some.inj hf) hP hS dX12_binary_25
  refine lv_aload_n hx hb dX12_binary_0 rfl (lv_at hl 0 rfl) ?_
  refine lv_aload_n hx hb dX12_binary_1 rfl (lv_at hl 0 rfl) ?_
  refine va_get (C := RX12) (T := TX12) (N := 22) hx hb hw bfX120 hown hK hP 0 (gm_0 E g a) rfl 0 (by decide) (hw _ bw755) (fun _ h9 => h9) rfl dX12_binary_2 ?_
  refine lv_iconst (v := 3) hx hb dX12_binary_5 (by decide) ?_
  refine lv_icmp_ne (tgt := 13) hx hb dX12_binary_6 (by decide) (fun c1 => ?_) (fun c1 => ?_)
  · replace hf := (if_neg c1).symm.trans hf
    refine lv_iconst (v := 0) hx hb dX12_binary_13 (by decide) ?_
    exact B14 g a 0 _ _ _ hP hS (lv_sub hl [0] rfl) hf
  · replace hf := (if_pos c1).symm.trans hf
    refine lv_iconst (v := 1) hx hb dX12_binary_9 (by decide) ?_
    refine lv_goto (tgt := 14) hx hb dX12_binary_10 (by decide) ?_
    exact B14 g a 1 _ _ _ hP hS (lv_sub hl [0] rfl) hf
def f_X12_kept_95 (K22 : xG → xA → Int32 → Int32 → Int32 → Option (Int32 × xG × xA)) (g : xG) (a : xA) (x1 : Int32) (x2 : Int32) (x3 : Int32) (x4 : Int32) : Option (Int32 × xG × xA) := (if x4 = 0 then K22 g a x1 (x2 + 0) (x3 + 1) else K22 g a x1 (x2 + 1) (x3 + 1))
def f_X12_kept_46 (K22 : xG → xA → Int32 → Int32 → Int32 → Option (Int32 × xG × xA)) : Nat → xG → xA → Int32 → Int32 → Int32 → Int32 → Int32 → Option (Int32 × xG × xA)
  | 0, _, _, _, _, _, _, _ => none
  | n + 1, g, a, x1, x2, x3, x4, x5 => (if (g 2) ≤ x5 then f_X12_kept_95 K22 g a x1 x2 x3 x4 else (if x4 = 0 then f_X12_kept_95 K22 g a x1 x2 x3 x4 else ck (inB x5 6) (Option.bind (f_X12_come g a x5 (a 3 (x5 : Int32).toNatClampNeg) x1 x3) (fun u9 => (if (u9.1 &&& (x3 ^^^ (-1))) = 0 then f_X12_kept_46 K22 n g u9.2 x1 x2 x3 1 (x5 + 1) else f_X12_kept_46 K22 n g u9.2 x1 x2 x3 0 (x5 + 1))))))
theorem e_X12_kept_46 (K22 : xG → xA → Int32 → Int32 → Int32 → Option (Int32 × xG × xA)) (n : Nat) (g : xG) (a : xA) (x1 : Int32) (x2 : Int32) (x3 : Int32) (x4 : Int32) (x5 : Int32) : f_X12_kept_46 K22 (n + 1) g a x1 x2 x3 x4 x5 = (if (g 2) ≤ x5 then f_X12_kept_95 K22 g a x1 x2 x3 x4 else (if x4 = 0 then f_X12_kept_95 K22 g a x1 x2 x3 x4 else ck (inB x5 6) (Option.bind (f_X12_come g a x5 (a 3 (x5 : Int32).toNatClampNeg) x1 x3) (fun u9 => (if (u9.1 &&& (x3 ^^^ (-1))) = 0 then f_X12_kept_46 K22 n g u9.2 x1 x2 x3 1 (x5 + 1) else f_X12_kept_46 K22 n g u9.2 x1 x2 x3 0 (x5 + 1)))))) := rfl
def f_X12_kept_22 : Nat → xG → xA → Int32 → Int32 → Int32 → Option (Int32 × xG × xA)
  | 0, _, _, _, _, _ => none
  | n + 1, g, a, x1, x2, x3 => (if (g 8) = 0 then Option.bind (f_X12_power g a x1) (fun u3 => (if ((1 : Int32) <<< (u3 &&& 31)) ≤ x3 then some (x2, g, a) else f_X12_kept_46 (f_X12_kept_22 n) fu g a x1 x2 x3 1 0)) else some (x2, g, a))
theorem e_X12_kept_22 (n : Nat) (g : xG) (a : xA) (x1 : Int32) (x2 : Int32) (x3 : Int32) : f_X12_kept_22 (n + 1) g a x1 x2 x3 = (if (g 8) = 0 then Option.bind (f_X12_power g a x1) (fun u3 => (if ((1 : Int32) <<< (u3 &&& 31)) ≤ x3 then some (x2, g, a) else f_X12_kept_46 (f_X12_kept_22 n) fu g a x1 x2 x3 1 0)) else some (x2, g, a)) := rfl
def f_X12_kept (g : xG) (a : xA) (v1 : Int32) : Option (Int32 × xG × xA) := (if (t_X12_in g a v1 1 2) = 0 then f_X12_kept_22 fu (upd g 8 1) a v1 0 0 else f_X12_kept_22 fu (upd g 8 0) a v1 0 0)
set_option maxRecDepth 100000 in
set_option maxHeartbeats 40000000 in
theorem c_X12_kept (l : Launch) (E : xE) (g : xG) (a : xA) (v1 : Int32) {res : Int32 × xG × xA} (hf : f_X12_kept g a v1 = some res) : xM l E yX12_kept cX12_kept 6 (some .int) 4 100 [.ref (E.2.1 0), .int v1] (wM E g a) (xQi E res.1 (wM E res.2.1 res.2.2)) := by
  unfold f_X12_kept at hf
  refine xM_of (by decide) (Nat.le_of_ble_eq_true rfl) ?_
  intro p e s m below meth c A hx hb hr hml hts hown hlocks hA hD hP hK hN hS ls hl
  have hw : ∀ w ∈ BW, w.before _ s = true := fun w h => hts w (List.mem_cons_of_mem _ h)
  have C0 : xCtx E p m c cX12_kept 6 s _ RX12 A yX12_kept cX12_kept 6 (some .int) := ⟨hx, hb, hml, hown, hts, hA, hK, hN⟩
  have hl : lv_has ls 6 [(0, .ref (E.2.1 0)), (1, .int v1)] := hl
  have B95 : ∀ (K22 : xG → xA → Int32 → Int32 → Int32 → Option (Int32 × xG × xA)) (hK22 : ∀ (g : xG) (a : xA) (x1 : Int32) (x2 : Int32) (x3 : Int32) (H : Heap) (locs : List Loc) (ls : Array Slot), va_P E.1 vwCl (wM E g a) H → va_S A s.heap H locs → lv_has ls 6 [(0, .ref (E.2.1 0)), (1, .int x1), (2, .int x2), (3, .int x3)] → K22 g a x1 x2 x3 = some res → W p l e ({ frames := 4, cells := 0, slots := 0, locals := 100 }) s m ([.ref (E.2.1 0), .int v1] : List Value).toArray below meth c H locs 0 0 (MQ below ((xQi E res.1 (wM E res.2.1 res.2.2)) A) ([.ref (E.2.1 0), .int v1] : List Value).toArray s 0 0 A) (F0 m 22 ls [])) (g : xG) (a : xA) (x1 : Int32) (x2 : Int32) (x3 : Int32) (x4 : Int32) (H : Heap) (locs : List Loc) (ls : Array Slot), va_P E.1 vwCl (wM E g a) H → va_S A s.heap H locs → lv_has ls 6 [(0, .ref (E.2.1 0)), (1, .int x1), (2, .int x2), (3, .int x3), (4, .int x4)] → f_X12_kept_95 K22 g a x1 x2 x3 x4 = some res → W p l e ({ frames := 4, cells := 0, slots := 0, locals := 100 }) s m ([.ref (E.2.1 0), .int v1] : List Value).toArray below meth c H locs 0 0 (MQ below ((xQi E res.1 (wM E res.2.1 res.2.2)) A) ([.ref (E.2.1 0), .int v1] : List Value).toArray s 0 0 A) (F0 m 95 ls []) := by
    intro K22 hK22 g a x1 x2 x3 x4 H locs ls hP hS hl hf
    unfold f_X12_kept_95 at hf
    refine lv_iload_n hx hb dX12_kept_95 rfl (lv_at hl 2 rfl) ?_
    refine lv_iload hx hb dX12_kept_96 (lv_at hl 4 rfl) ?_
    refine lv_if_eq (tgt := 105) hx hb dX12_kept_98 (by decide) (fun c12 => ?_) (fun c12 => ?_)
    · replace hf := (if_pos c12).symm.trans hf
      refine lv_iconst (v := 0) hx hb dX12_kept_105 (by decide) ?_
      refine lv_iadd hx hb dX12_kept_106 ?_
      refine lv_istore_n (lv' := [(2, .int (x2 + 0)), (0, .ref (E.2.1 0)), (1, .int x1), (3, .int x3), (4, .int x4)]) hx hb dX12_kept_107 rfl hl (by decide) rfl (fun ls hl => ?_)
      refine lv_iinc (v := (x3 + 1)) (lv' := [(3, .int (x3 + 1)), (2, .int (x2 + 0)), (0, .ref (E.2.1 0)), (1, .int x1), (4, .int x4)]) hx hb dX12_kept_108 hl (k := 3) rfl rfl (by decide) rfl (fun ls hl => ?_)
      refine lv_goto (tgt := 22) hx hb dX12_kept_111 (by decide) ?_
      exact hK22 g a x1 (x2 + 0) (x3 + 1) _ _ _ hP hS (lv_sub hl [2, 3, 1, 0] rfl) hf
    · replace hf := (if_neg c12).symm.trans hf
      refine lv_iconst (v := 1) hx hb dX12_kept_101 (by decide) ?_
      refine lv_goto (tgt := 106) hx hb dX12_kept_102 (by decide) ?_
      refine lv_iadd hx hb dX12_kept_106 ?_
      refine lv_istore_n (lv' := [(2, .int (x2 + 1)), (0, .ref (E.2.1 0)), (1, .int x1), (3, .int x3), (4, .int x4)]) hx hb dX12_kept_107 rfl hl (by decide) rfl (fun ls hl => ?_)
      refine lv_iinc (v := (x3 + 1)) (lv' := [(3, .int (x3 + 1)), (2, .int (x2 + 1)), (0, .ref (E.2.1 0)), (1, .int x1), (4, .int x4)]) hx hb dX12_kept_108 hl (k := 3) rfl rfl (by decide) rfl (fun ls hl => ?_)
      refine lv_goto (tgt := 22) hx hb dX12_kept_111 (by decide) ?_
      exact hK22 g a x1 (x2 + 1) (x3 + 1) _ _ _ hP hS (lv_sub hl [2, 3, 1, 0] rfl) hf
  have B46 : ∀ (K22 : xG → xA → Int32 → Int32 → Int32 → Option (Int32 × xG × xA)) (hK22 : ∀ (g : xG) (a : xA) (x1 : Int32) (x2 : Int32) (x3 : Int32) (H : Heap) (locs : List Loc) (ls : Array Slot), va_P E.1 vwCl (wM E g a) H → va_S A s.heap H locs → lv_has ls 6 [(0, .ref (E.2.1 0)), (1, .int x1), (2, .int x2), (3, .int x3)] → K22 g a x1 x2 x3 = some res → W p l e ({ frames := 4, cells := 0, slots := 0, locals := 100 }) s m ([.ref (E.2.1 0), .int v1] : List Value).toArray below meth c H locs 0 0 (MQ below ((xQi E res.1 (wM E res.2.1 res.2.2)) A) ([.ref (E.2.1 0), .int v1] : List Value).toArray s 0 0 A) (F0 m 22 ls [])) (n : Nat) (g : xG) (a : xA) (x1 : Int32) (x2 : Int32) (x3 : Int32) (x4 : Int32) (x5 : Int32) (H : Heap) (locs : List Loc) (ls : Array Slot), va_P E.1 vwCl (wM E g a) H → va_S A s.heap H locs → lv_has ls 6 [(0, .ref (E.2.1 0)), (1, .int x1), (2, .int x2), (3, .int x3), (4, .int x4), (5, .int x5)] → f_X12_kept_46 K22 n g a x1 x2 x3 x4 x5 = some res → W p l e ({ frames := 4, cells := 0, slots := 0, locals := 100 }) s m ([.ref (E.2.1 0), .int v1] : List Value).toArray below meth c H locs 0 0 (MQ below ((xQi E res.1 (wM E res.2.1 res.2.2)) A) ([.ref (E.2.1 0), .int v1] : List Value).toArray s 0 0 A) (F0 m 46 ls []) := by
    intro K22 hK22 n
    induction n with
    | zero => intro g a x1 x2 x3 x4 x5 H locs ls hP hS hl hf; exact absurd (show (none : Option (Int32 × xG × xA)) = some res from hf) (by intro h; cases h)
    | succ n ih =>
      intro g a x1 x2 x3 x4 x5 H locs ls hP hS hl hf
      replace hf := (e_X12_kept_46 K22 n g a x1 x2 x3 x4 x5).symm.trans hf
      refine lv_iload hx hb dX12_kept_46 (lv_at hl 5 rfl) ?_
      refine lv_aload_n hx hb dX12_kept_48 rfl (lv_at hl 0 rfl) ?_
      refine va_get (C := RX12) (T := TX12) (N := 22) hx hb hw bfX120 hown hK hP 0 (gm_0 E g a) rfl 4 (by decide) (hw _ bw783) (fun _ h9 => h9) rfl dX12_kept_49 ?_
      refine lv_icmp_ge (tgt := 95) hx hb dX12_kept_52 (by decide) (fun c6 => ?_) (fun c6 => ?_)
      · replace hf := (if_pos c6).symm.trans hf
        exact B95 K22 hK22 g a x1 x2 x3 x4 _ _ _ hP hS (lv_sub hl [0, 1, 2, 3, 4] rfl) hf
      · replace hf := (if_neg c6).symm.trans hf
        refine lv_iload hx hb dX12_kept_55 (lv_at hl 4 rfl) ?_
        refine lv_if_eq (tgt := 95) hx hb dX12_kept_57 (by decide) (fun c7 => ?_) (fun c7 => ?_)
        · replace hf := (if_pos c7).symm.trans hf
          exact B95 K22 hK22 g a x1 x2 x3 x4 _ _ _ hP hS (lv_sub hl [0, 1, 2, 3, 4] rfl) hf
        · replace hf := (if_neg c7).symm.trans hf
          refine lv_aload_n hx hb dX12_kept_60 rfl (lv_at hl 0 rfl) ?_
          refine lv_iload hx hb dX12_kept_61 (lv_at hl 5 rfl) ?_
          refine lv_aload_n hx hb dX12_kept_63 rfl (lv_at hl 0 rfl) ?_
          refine va_get (C := RX12) (T := TX12) (N := 22) hx hb hw bfX120 hown hK hP 0 (gm_0 E g a) rfl 5 (by decide) (hw _ bw758) (fun _ h9 => h9) rfl dX12_kept_64 ?_
          refine lv_iload hx hb dX12_kept_67 (lv_at hl 5 rfl) ?_
          obtain ⟨k8, hf⟩ := ck_some hf
          refine va_iald hx hb hK hP 3 0 (gm_3 E g a) rfl (inB_in k8) dX12_kept_69 ?_
          refine lv_iload_n hx hb dX12_kept_70 rfl (lv_at hl 1 rfl) ?_
          refine lv_iload_n hx hb dX12_kept_71 rfl (lv_at hl 3 rfl) ?_
          obtain ⟨u9, e10, hf⟩ := bd_some hf
          refine xci (xRunV (rest := []) (As := [.int x5, .int (a 3 (x5 : Int32).toNatClampNeg), .int x1, .int x3]) (C := RX12) (k := 4) C0 (c_X12_come l E g a x5 (a 3 (x5 : Int32).toNatClampNeg) x1 x3 e10) bw827 bw834 bw778 bw835 bw836 hd_X12_come ⟨Nat.le_of_ble_eq_true rfl, Nat.le_of_ble_eq_true rfl⟩ hP (wM_D hD) hS (va_recv hK hP (ci := 12) rfl (gm_0 E g a)) rfl hl.1 rfl (Nat.le_of_ble_eq_true rfl) dX12_kept_72 ⟨Nat.zero_le _, Nat.zero_le _⟩) hS (fun H locs hP hS => ?_)
          refine lv_iload_n hx hb dX12_kept_75 rfl (lv_at hl 3 rfl) ?_
          refine lv_iconst (v := (-1)) hx hb dX12_kept_76 (by decide) ?_
          refine lv_ixor hx hb dX12_kept_77 ?_
          refine lv_iand hx hb dX12_kept_78 ?_
          refine lv_if_ne (tgt := 86) hx hb dX12_kept_79 (by decide) (fun c11 => ?_) (fun c11 => ?_)
          · replace hf := (if_neg c11).symm.trans hf
            refine lv_iconst (v := 0) hx hb dX12_kept_86 (by decide) ?_
            refine lv_istore (lv' := [(4, .int 0), (0, .ref (E.2.1 0)), (1, .int x1), (2, .int x2), (3, .int x3), (5, .int x5)]) hx hb dX12_kept_87 hl (by decide) rfl (fun ls hl => ?_)
            refine lv_iinc (v := (x5 + 1)) (lv' := [(5, .int (x5 + 1)), (4, .int 0), (0, .ref (E.2.1 0)), (1, .int x1), (2, .int x2), (3, .int x3)]) hx hb dX12_kept_89 hl (k := 5) rfl rfl (by decide) rfl (fun ls hl => ?_)
            refine lv_goto (tgt := 46) hx hb dX12_kept_92 (by decide) ?_
            exact ih g u9.2 x1 x2 x3 0 (x5 + 1) _ _ _ hP hS (lv_sub hl [2, 3, 4, 5, 1, 0] rfl) hf
          · replace hf := (if_pos c11).symm.trans hf
            refine lv_iconst (v := 1) hx hb dX12_kept_82 (by decide) ?_
            refine lv_goto (tgt := 87) hx hb dX12_kept_83 (by decide) ?_
            refine lv_istore (lv' := [(4, .int 1), (0, .ref (E.2.1 0)), (1, .int x1), (2, .int x2), (3, .int x3), (5, .int x5)]) hx hb dX12_kept_87 hl (by decide) rfl (fun ls hl => ?_)
            refine lv_iinc (v := (x5 + 1)) (lv' := [(5, .int (x5 + 1)), (4, .int 1), (0, .ref (E.2.1 0)), (1, .int x1), (2, .int x2), (3, .int x3)]) hx hb dX12_kept_89 hl (k := 5) rfl rfl (by decide) rfl (fun ls hl => ?_)
            refine lv_goto (tgt := 46) hx hb dX12_kept_92 (by decide) ?_
            exact ih g u9.2 x1 x2 x3 1 (x5 + 1) _ _ _ hP hS (lv_sub hl [2, 3, 4, 5, 1, 0] rfl) hf
  have B22 : ∀ (n : Nat) (g : xG) (a : xA) (x1 : Int32) (x2 : Int32) (x3 : Int32) (H : Heap) (locs : List Loc) (ls : Array Slot), va_P E.1 vwCl (wM E g a) H → va_S A s.heap H locs → lv_has ls 6 [(0, .ref (E.2.1 0)), (1, .int x1), (2, .int x2), (3, .int x3)] → f_X12_kept_22 n g a x1 x2 x3 = some res → W p l e ({ frames := 4, cells := 0, slots := 0, locals := 100 }) s m ([.ref (E.2.1 0), .int v1] : List Value).toArray below meth c H locs 0 0 (MQ below ((xQi E res.1 (wM E res.2.1 res.2.2)) A) ([.ref (E.2.1 0), .int v1] : List Value).toArray s 0 0 A) (F0 m 22 ls []) := by
    intro n
    induction n with
    | zero => intro g a x1 x2 x3 H locs ls hP hS hl hf; exact absurd (show (none : Option (Int32 × xG × xA)) = some res from hf) (by intro h; cases h)
    | succ n ih =>
      intro g a x1 x2 x3 H locs ls hP hS hl hf
      replace hf := (e_X12_kept_22 n g a x1 x2 x3).symm.trans hf
      refine lv_aload_n hx hb dX12_kept_22 rfl (lv_at hl 0 rfl) ?_
      refine va_get (C := RX12) (T := TX12) (N := 22) hx hb hw bfX120 hown hK hP 0 (gm_0 E g a) rfl 21 (by decide) (hw _ bw771) (fun _ h9 => h9) rfl dX12_kept_23 ?_
      refine lv_if_ne (tgt := 114) hx hb dX12_kept_26 (by decide) (fun c2 => ?_) (fun c2 => ?_)
      · replace hf := (if_neg c2).symm.trans hf
        refine lv_iload_n hx hb dX12_kept_114 rfl (lv_at hl 2 rfl) ?_
        exact xi_retS (fr := (fun r => r.1)) (fw := (fun r => wM E r.2.1 r.2.2)) hx hb hr hlocks (Option.some.inj hf) hP hS dX12_kept_115
      · replace hf := (if_pos c2).symm.trans hf
        refine lv_iload_n hx hb dX12_kept_29 rfl (lv_at hl 3 rfl) ?_
        refine lv_iconst (v := 1) hx hb dX12_kept_30 (by decide) ?_
        refine lv_aload_n hx hb dX12_kept_31 rfl (lv_at hl 0 rfl) ?_
        refine lv_iload_n hx hb dX12_kept_32 rfl (lv_at hl 1 rfl) ?_
        obtain ⟨u3, e4, hf⟩ := bd_some hf
        refine xci (xRunV (rest := [.int 1, .int x3]) (As := [.int x1]) (C := RX12) (k := 1) C0 (c_X12_power l E g a x1 e4) bw773 bw775 bw778 bw776 bw777 hd_X12_power ⟨Nat.le_of_ble_eq_true rfl, Nat.le_of_ble_eq_true rfl⟩ hP (wM_D hD) hS (va_recv hK hP (ci := 12) rfl (gm_0 E g a)) rfl hl.1 rfl (Nat.le_of_ble_eq_true rfl) dX12_kept_33 ⟨Nat.zero_le _, Nat.zero_le _⟩) hS (fun H locs hP hS => ?_)
        refine lv_ishl hx hb dX12_kept_36 ?_
        refine lv_icmp_ge (tgt := 114) hx hb dX12_kept_37 (by decide) (fun c5 => ?_) (fun c5 => ?_)
        · replace hf := (if_pos c5).symm.trans hf
          refine lv_iload_n hx hb dX12_kept_114 rfl (lv_at hl 2 rfl) ?_
          exact xi_retS (fr := (fun r => r.1)) (fw := (fun r => wM E r.2.1 r.2.2)) hx hb hr hlocks (Option.some.inj hf) hP hS dX12_kept_115
        · replace hf := (if_neg c5).symm.trans hf
          refine lv_iconst (v := 1) hx hb dX12_kept_40 (by decide) ?_
          refine lv_istore (lv' := [(4, .int 1), (0, .ref (E.2.1 0)), (1, .int x1), (2, .int x2), (3, .int x3)]) hx hb dX12_kept_41 hl (by decide) rfl (fun ls hl => ?_)
          refine lv_iconst (v := 0) hx hb dX12_kept_43 (by decide) ?_
          refine lv_istore (lv' := [(5, .int 0), (4, .int 1), (0, .ref (E.2.1 0)), (1, .int x1), (2, .int x2), (3, .int x3)]) hx hb dX12_kept_44 hl (by decide) rfl (fun ls hl => ?_)
          exact B46 (f_X12_kept_22 n) ih fu g a x1 x2 x3 1 0 _ _ _ hP hS (lv_sub hl [2, 3, 4, 5, 1, 0] rfl) hf
  refine lv_aload_n hx hb dX12_kept_0 rfl (lv_at hl 0 rfl) ?_
  refine lv_iload_n hx hb dX12_kept_1 rfl (lv_at hl 1 rfl) ?_
  refine lv_iconst (v := 1) hx hb dX12_kept_2 (by decide) ?_
  refine lv_iconst (v := 2) hx hb dX12_kept_3 (by decide) ?_
  refine xci (xRunS (rest := [.ref (E.2.1 0)]) (As := [.int v1, .int 1, .int 2]) (k := 3) C0 (c_X12_in l E g a v1 1 2) bw772 bw785 bw778 bw786 hd_X12_in ⟨Nat.le_of_ble_eq_true rfl, Nat.le_of_ble_eq_true rfl⟩ hP (wM_D hD) hS rfl hl.1 rfl (Nat.le_of_ble_eq_true rfl) dX12_kept_4 ⟨Nat.zero_le _, Nat.zero_le _⟩) hS (fun H locs hP hS => ?_)
  refine lv_if_eq (tgt := 14) hx hb dX12_kept_7 (by decide) (fun c1 => ?_) (fun c1 => ?_)
  · replace hf := (if_pos c1).symm.trans hf
    refine lv_iconst (v := 1) hx hb dX12_kept_14 (by decide) ?_
    refine va_put (v := .int 1) (ty := .int) (C := RX12) (T := TX12) (N := 22) hx hb hw bfX120 tyX12 tyX12_ok nmX12 hown hK hP (wM_D hD) hS 0 (gm_0 E g a) rfl 21 (by decide) (hw _ bw771) (fun _ h9 => h9) rfl (by decide +kernel) rfl rfl (Nat.le_of_ble_eq_true rfl) dX12_kept_15 (fun H locs hP _ hS => ?_)
    have hP := xP_eq (sm_g8 E g a 1) hP
    refine lv_iconst (v := 0) hx hb dX12_kept_18 (by decide) ?_
    refine lv_istore_n (lv' := [(2, .int 0), (0, .ref (E.2.1 0)), (1, .int v1)]) hx hb dX12_kept_19 rfl hl (by decide) rfl (fun ls hl => ?_)
    refine lv_iconst (v := 0) hx hb dX12_kept_20 (by decide) ?_
    refine lv_istore_n (lv' := [(3, .int 0), (2, .int 0), (0, .ref (E.2.1 0)), (1, .int v1)]) hx hb dX12_kept_21 rfl hl (by decide) rfl (fun ls hl => ?_)
    exact B22 fu (upd g 8 1) a v1 0 0 _ _ _ hP hS (lv_sub hl [2, 3, 1, 0] rfl) hf
  · replace hf := (if_neg c1).symm.trans hf
    refine lv_iconst (v := 0) hx hb dX12_kept_10 (by decide) ?_
    refine lv_goto (tgt := 15) hx hb dX12_kept_11 (by decide) ?_
    refine va_put (v := .int 0) (ty := .int) (C := RX12) (T := TX12) (N := 22) hx hb hw bfX120 tyX12 tyX12_ok nmX12 hown hK hP (wM_D hD) hS 0 (gm_0 E g a) rfl 21 (by decide) (hw _ bw771) (fun _ h9 => h9) rfl (by decide +kernel) rfl rfl (Nat.le_of_ble_eq_true rfl) dX12_kept_15 (fun H locs hP _ hS => ?_)
    have hP := xP_eq (sm_g8 E g a 0) hP
    refine lv_iconst (v := 0) hx hb dX12_kept_18 (by decide) ?_
    refine lv_istore_n (lv' := [(2, .int 0), (0, .ref (E.2.1 0)), (1, .int v1)]) hx hb dX12_kept_19 rfl hl (by decide) rfl (fun ls hl => ?_)
    refine lv_iconst (v := 0) hx hb dX12_kept_20 (by decide) ?_
    refine lv_istore_n (lv' := [(3, .int 0), (2, .int 0), (0, .ref (E.2.1 0)), (1, .int v1)]) hx hb dX12_kept_21 rfl hl (by decide) rfl (fun ls hl => ?_)
    exact B22 fu (upd g 8 0) a v1 0 0 _ _ _ hP hS (lv_sub hl [2, 3, 1, 0] rfl) hf
def f_X12_triesCode_5 (g : xG) : Nat → xA → Int32 → Int32 → Int32 → Option (xA)
  | 0, _, _, _, _ => none
  | n + 1, a, x2, x3, x4 => Option.bind (f_X12_power g a x2) (fun u1 => (if u1 ≤ x4 then some a else ck (nzB (g 0)) (ck (inB (162 + x4) 189) (ck (nzB (g 0)) (f_X12_triesCode_5 g n (upA a 4 (upd (a 4) ((162 + x4) : Int32).toNatClampNeg (x3 - x3 / (g 0) * (g 0)))) x2 (x3 / (g 0)) (x4 + 1))))))
theorem e_X12_triesCode_5 (g : xG) (n : Nat) (a : xA) (x2 : Int32) (x3 : Int32) (x4 : Int32) : f_X12_triesCode_5 g (n + 1) a x2 x3 x4 = Option.bind (f_X12_power g a x2) (fun u1 => (if u1 ≤ x4 then some a else ck (nzB (g 0)) (ck (inB (162 + x4) 189) (ck (nzB (g 0)) (f_X12_triesCode_5 g n (upA a 4 (upd (a 4) ((162 + x4) : Int32).toNatClampNeg (x3 - x3 / (g 0) * (g 0)))) x2 (x3 / (g 0)) (x4 + 1)))))) := rfl
def f_X12_triesCode (g : xG) (a : xA) (v1 : Int32) (v2 : Int32) : Option (xA) := f_X12_triesCode_5 g fu a v2 v1 0
set_option maxRecDepth 100000 in
set_option maxHeartbeats 40000000 in
theorem c_X12_triesCode (l : Launch) (E : xE) (g : xG) (a : xA) (v1 : Int32) (v2 : Int32) {res : xA} (hf : f_X12_triesCode g a v1 v2 = some res) : xM l E yX12_triesCode cX12_triesCode 5 none 1 23 [.ref (E.2.1 0), .int v1, .int v2] (wM E g a) (xQv E (wM E g res)) := by
  unfold f_X12_triesCode at hf
  refine xM_of (by decide) (Nat.le_of_ble_eq_true rfl) ?_
  intro p e s m below meth c A hx hb hr hml hts hown hlocks hA hD hP hK hN hS ls hl
  have hw : ∀ w ∈ BW, w.before _ s = true := fun w h => hts w (List.mem_cons_of_mem _ h)
  have C0 : xCtx E p m c cX12_triesCode 5 s _ RX12 A yX12_triesCode cX12_triesCode 5 none := ⟨hx, hb, hml, hown, hts, hA, hK, hN⟩
  have hl : lv_has ls 5 [(0, .ref (E.2.1 0)), (1, .int v1), (2, .int v2)] := hl
  have B5 : ∀ (n : Nat) (a : xA) (x2 : Int32) (x3 : Int32) (x4 : Int32) (H : Heap) (locs : List Loc) (ls : Array Slot), va_P E.1 vwCl (wM E g a) H → va_S A s.heap H locs → lv_has ls 5 [(0, .ref (E.2.1 0)), (2, .int x2), (3, .int x3), (4, .int x4)] → f_X12_triesCode_5 g n a x2 x3 x4 = some res → W p l e ({ frames := 1, cells := 0, slots := 0, locals := 23 }) s m ([.ref (E.2.1 0), .int v1, .int v2] : List Value).toArray below meth c H locs 0 0 (MQ below ((xQv E (wM E g res)) A) ([.ref (E.2.1 0), .int v1, .int v2] : List Value).toArray s 0 0 A) (F0 m 5 ls []) := by
    intro n
    induction n with
    | zero => intro a x2 x3 x4 H locs ls hP hS hl hf; exact absurd (show (none : Option (xA)) = some res from hf) (by intro h; cases h)
    | succ n ih =>
      intro a x2 x3 x4 H locs ls hP hS hl hf
      replace hf := (e_X12_triesCode_5 g n a x2 x3 x4).symm.trans hf
      refine lv_iload hx hb dX12_triesCode_5 (lv_at hl 3 rfl) ?_
      refine lv_aload_n hx hb dX12_triesCode_7 rfl (lv_at hl 0 rfl) ?_
      refine lv_iload_n hx hb dX12_triesCode_8 rfl (lv_at hl 1 rfl) ?_
      obtain ⟨u1, e2, hf⟩ := bd_some hf
      refine xci (xRunV (rest := [.int x4]) (As := [.int x2]) (C := RX12) (k := 1) C0 (c_X12_power l E g a x2 e2) bw773 bw775 bw778 bw776 bw777 hd_X12_power ⟨Nat.le_of_ble_eq_true rfl, Nat.le_of_ble_eq_true rfl⟩ hP (wM_D hD) hS (va_recv hK hP (ci := 12) rfl (gm_0 E g a)) rfl hl.1 rfl (Nat.le_of_ble_eq_true rfl) dX12_triesCode_9 ⟨Nat.zero_le _, Nat.zero_le _⟩) hS (fun H locs hP hS => ?_)
      refine lv_icmp_ge (tgt := 45) hx hb dX12_triesCode_12 (by decide) (fun c3 => ?_) (fun c3 => ?_)
      · replace hf := (if_pos c3).symm.trans hf
        exact xv_retS (fw := (fun r => wM E g r)) hx hb hr hlocks (Option.some.inj hf) hP hS dX12_triesCode_45
      · replace hf := (if_neg c3).symm.trans hf
        refine lv_aload_n hx hb dX12_triesCode_15 rfl (lv_at hl 0 rfl) ?_
        refine va_get (C := RX12) (T := TX12) (N := 22) hx hb hw bfX120 hown hK hP 0 (gm_0 E g a) rfl 6 (by decide) (hw _ bw759) (fun _ h9 => h9) rfl dX12_triesCode_16 ?_
        refine lv_sipush (v := 162) hx hb dX12_triesCode_19 (by decide) ?_
        refine lv_iload hx hb dX12_triesCode_22 (lv_at hl 3 rfl) ?_
        refine lv_iadd hx hb dX12_triesCode_24 ?_
        refine lv_iload_n hx hb dX12_triesCode_25 rfl (lv_at hl 2 rfl) ?_
        refine lv_aload_n hx hb dX12_triesCode_26 rfl (lv_at hl 0 rfl) ?_
        refine va_get (C := RX12) (T := TX12) (N := 22) hx hb hw bfX120 hown hK hP 0 (gm_0 E g a) rfl 0 (by decide) (hw _ bw755) (fun _ h9 => h9) rfl dX12_triesCode_27 ?_
        obtain ⟨k4, hf⟩ := ck_some hf
        refine lv_irem hx hb dX12_triesCode_30 (nzB_nz k4) ?_
        obtain ⟨k5, hf⟩ := ck_some hf
        refine va_iast hx hb hK hP (wM_D hD) hS 4 0 (gm_4 E g a) rfl (inB_in k5) dX12_triesCode_31 (fun H locs hP _ hS => ?_)
        have hP := xP_eq (sm_a4 E g a (upd (a 4) ((162 + x4) : Int32).toNatClampNeg (x3 - x3 / (g 0) * (g 0)))) hP
        refine lv_iload_n hx hb dX12_triesCode_32 rfl (lv_at hl 2 rfl) ?_
        refine lv_aload_n hx hb dX12_triesCode_33 rfl (lv_at hl 0 rfl) ?_
        refine va_get (C := RX12) (T := TX12) (N := 22) hx hb hw bfX120 hown hK hP 0 (gm_0 E g (upA a 4 (upd (a 4) ((162 + x4) : Int32).toNatClampNeg (x3 - x3 / (g 0) * (g 0))))) rfl 0 (by decide) (hw _ bw755) (fun _ h9 => h9) rfl dX12_triesCode_34 ?_
        obtain ⟨k6, hf⟩ := ck_some hf
        refine lv_idiv hx hb dX12_triesCode_37 (nzB_nz k6) ?_
        refine lv_istore_n (lv' := [(3, .int (x3 / (g 0))), (0, .ref (E.2.1 0)), (2, .int x2), (4, .int x4)]) hx hb dX12_triesCode_38 rfl hl (by decide) rfl (fun ls hl => ?_)
        refine lv_iinc (v := (x4 + 1)) (lv' := [(4, .int (x4 + 1)), (3, .int (x3 / (g 0))), (0, .ref (E.2.1 0)), (2, .int x2)]) hx hb dX12_triesCode_39 hl (k := 3) rfl rfl (by decide) rfl (fun ls hl => ?_)
        refine lv_goto (tgt := 5) hx hb dX12_triesCode_42 (by decide) ?_
        exact ih (upA a 4 (upd (a 4) ((162 + x4) : Int32).toNatClampNeg (x3 - x3 / (g 0) * (g 0)))) x2 (x3 / (g 0)) (x4 + 1) _ _ _ hP hS (lv_sub hl [2, 3, 1, 0] rfl) hf
  refine lv_iload_n hx hb dX12_triesCode_0 rfl (lv_at hl 1 rfl) ?_
  refine lv_istore_n (lv' := [(3, .int v1), (0, .ref (E.2.1 0)), (1, .int v1), (2, .int v2)]) hx hb dX12_triesCode_1 rfl hl (by decide) rfl (fun ls hl => ?_)
  refine lv_iconst (v := 0) hx hb dX12_triesCode_2 (by decide) ?_
  refine lv_istore (lv' := [(4, .int 0), (3, .int v1), (0, .ref (E.2.1 0)), (1, .int v1), (2, .int v2)]) hx hb dX12_triesCode_3 hl (by decide) rfl (fun ls hl => ?_)
  exact B5 fu a v2 v1 0 _ _ _ hP hS (lv_sub hl [2, 4, 1, 0] rfl) hf
def f_X12_firstOfTwo_19 (g : xG) : Nat → xA → Int32 → Int32 → Option (Int64 × xA)
  | 0, _, _, _ => none
  | n + 1, a, x1, x2 => (if x1 ≤ x2 then some ((-1), a) else Option.bind (f_X12_triesCode g a x2 2) (fun u3 => Option.bind (f_X12_isIdempotent g u3 6 2) (fun u5 => (if u5 = 0 then f_X12_firstOfTwo_19 g n u3 x1 (x2 + 1) else Option.bind (f_X12_isSymmetric g u3 6 2) (fun u8 => (if u8 = 0 then f_X12_firstOfTwo_19 g n u3 x1 (x2 + 1) else Option.bind (f_X12_associates g u3 6) (fun u11 => (if u11 = 0 then f_X12_firstOfTwo_19 g n u3 x1 (x2 + 1) else Option.bind (f_X12_keepsAll g u3 6 2) (fun u14 => (if u14.1 = 0 then f_X12_firstOfTwo_19 g n u14.2 x1 (x2 + 1) else some (((x2 : Int32).toInt64), u14.2)))))))))))
theorem e_X12_firstOfTwo_19 (g : xG) (n : Nat) (a : xA) (x1 : Int32) (x2 : Int32) : f_X12_firstOfTwo_19 g (n + 1) a x1 x2 = (if x1 ≤ x2 then some ((-1), a) else Option.bind (f_X12_triesCode g a x2 2) (fun u3 => Option.bind (f_X12_isIdempotent g u3 6 2) (fun u5 => (if u5 = 0 then f_X12_firstOfTwo_19 g n u3 x1 (x2 + 1) else Option.bind (f_X12_isSymmetric g u3 6 2) (fun u8 => (if u8 = 0 then f_X12_firstOfTwo_19 g n u3 x1 (x2 + 1) else Option.bind (f_X12_associates g u3 6) (fun u11 => (if u11 = 0 then f_X12_firstOfTwo_19 g n u3 x1 (x2 + 1) else Option.bind (f_X12_keepsAll g u3 6 2) (fun u14 => (if u14.1 = 0 then f_X12_firstOfTwo_19 g n u14.2 x1 (x2 + 1) else some (((x2 : Int32).toInt64), u14.2))))))))))) := rfl
def f_X12_firstOfTwo (g : xG) (a : xA) : Option (Int64 × xA) := (if (g 0) = 2 then f_X12_firstOfTwo_19 g fu a 16 0 else f_X12_firstOfTwo_19 g fu a 19683 0)
set_option maxRecDepth 100000 in
set_option maxHeartbeats 40000000 in
theorem c_X12_firstOfTwo (l : Launch) (E : xE) (g : xG) (a : xA) {res : Int64 × xA} (hf : f_X12_firstOfTwo g a = some res) : xM l E yX12_firstOfTwo cX12_firstOfTwo 3 (some .long) 6 147 [.ref (E.2.1 0)] (wM E g a) (xQl E res.1 (wM E g res.2)) := by
  unfold f_X12_firstOfTwo at hf
  refine xM_of (by decide) (Nat.le_of_ble_eq_true rfl) ?_
  intro p e s m below meth c A hx hb hr hml hts hown hlocks hA hD hP hK hN hS ls hl
  have hw : ∀ w ∈ BW, w.before _ s = true := fun w h => hts w (List.mem_cons_of_mem _ h)
  have C0 : xCtx E p m c cX12_firstOfTwo 3 s _ RX12 A yX12_firstOfTwo cX12_firstOfTwo 3 (some .long) := ⟨hx, hb, hml, hown, hts, hA, hK, hN⟩
  have hl : lv_has ls 3 [(0, .ref (E.2.1 0))] := hl
  have B19 : ∀ (n : Nat) (a : xA) (x1 : Int32) (x2 : Int32) (H : Heap) (locs : List Loc) (ls : Array Slot), va_P E.1 vwCl (wM E g a) H → va_S A s.heap H locs → lv_has ls 3 [(0, .ref (E.2.1 0)), (1, .int x1), (2, .int x2)] → f_X12_firstOfTwo_19 g n a x1 x2 = some res → W p l e ({ frames := 6, cells := 0, slots := 0, locals := 147 }) s m ([.ref (E.2.1 0)] : List Value).toArray below meth c H locs 0 0 (MQ below ((xQl E res.1 (wM E g res.2)) A) ([.ref (E.2.1 0)] : List Value).toArray s 0 0 A) (F0 m 19 ls []) := by
    intro n
    induction n with
    | zero => intro a x1 x2 H locs ls hP hS hl hf; exact absurd (show (none : Option (Int64 × xA)) = some res from hf) (by intro h; cases h)
    | succ n ih =>
      intro a x1 x2 H locs ls hP hS hl hf
      replace hf := (e_X12_firstOfTwo_19 g n a x1 x2).symm.trans hf
      refine lv_iload_n hx hb dX12_firstOfTwo_19 rfl (lv_at hl 2 rfl) ?_
      refine lv_iload_n hx hb dX12_firstOfTwo_20 rfl (lv_at hl 1 rfl) ?_
      refine lv_icmp_ge (tgt := 78) hx hb dX12_firstOfTwo_21 (by decide) (fun c2 => ?_) (fun c2 => ?_)
      · replace hf := (if_pos c2).symm.trans hf
        refine lv_ldc2 hx hb hown (hw _ bw886) dX12_firstOfTwo_78 ?_
        exact xl_retS (fr := (fun r => r.1)) (fw := (fun r => wM E g r.2)) hx hb hr hlocks (Option.some.inj hf) hP hS dX12_firstOfTwo_81
      · replace hf := (if_neg c2).symm.trans hf
        refine lv_aload_n hx hb dX12_firstOfTwo_24 rfl (lv_at hl 0 rfl) ?_
        refine lv_iload_n hx hb dX12_firstOfTwo_25 rfl (lv_at hl 2 rfl) ?_
        refine lv_iconst (v := 2) hx hb dX12_firstOfTwo_26 (by decide) ?_
        obtain ⟨u3, e4, hf⟩ := bd_some hf
        refine xcv (xRunV (rest := []) (As := [.int x2, .int 2]) (C := RX12) (k := 2) C0 (c_X12_triesCode l E g a x2 2 e4) bw885 bw887 bw778 bw888 bw889 hd_X12_triesCode ⟨Nat.le_of_ble_eq_true rfl, Nat.le_of_ble_eq_true rfl⟩ hP (wM_D hD) hS (va_recv hK hP (ci := 12) rfl (gm_0 E g a)) rfl hl.1 rfl (Nat.le_of_ble_eq_true rfl) dX12_firstOfTwo_27 ⟨Nat.zero_le _, Nat.zero_le _⟩) hS (fun H locs hP hS => ?_)
        refine lv_aload_n hx hb dX12_firstOfTwo_30 rfl (lv_at hl 0 rfl) ?_
        refine lv_bipush (v := 6) hx hb dX12_firstOfTwo_31 (by decide) ?_
        refine lv_iconst (v := 2) hx hb dX12_firstOfTwo_33 (by decide) ?_
        obtain ⟨u5, e6, hf⟩ := bd_some hf
        refine xci (xRunV (rest := []) (As := [.int 6, .int 2]) (C := RX12) (k := 2) C0 (c_X12_isIdempotent l E g u3 6 2 e6) bw849 bw857 bw778 bw858 bw859 hd_X12_isIdempotent ⟨Nat.le_of_ble_eq_true rfl, Nat.le_of_ble_eq_true rfl⟩ hP (wM_D hD) hS (va_recv hK hP (ci := 12) rfl (gm_0 E g u3)) rfl hl.1 rfl (Nat.le_of_ble_eq_true rfl) dX12_firstOfTwo_34 ⟨Nat.zero_le _, Nat.zero_le _⟩) hS (fun H locs hP hS => ?_)
        refine lv_if_eq (tgt := 72) hx hb dX12_firstOfTwo_37 (by decide) (fun c7 => ?_) (fun c7 => ?_)
        · replace hf := (if_pos c7).symm.trans hf
          refine lv_iinc (v := (x2 + 1)) (lv' := [(2, .int (x2 + 1)), (0, .ref (E.2.1 0)), (1, .int x1)]) hx hb dX12_firstOfTwo_72 hl (k := 2) rfl rfl (by decide) rfl (fun ls hl => ?_)
          refine lv_goto (tgt := 19) hx hb dX12_firstOfTwo_75 (by decide) ?_
          exact ih u3 x1 (x2 + 1) _ _ _ hP hS (lv_sub hl [1, 2, 0] rfl) hf
        · replace hf := (if_neg c7).symm.trans hf
          refine lv_aload_n hx hb dX12_firstOfTwo_40 rfl (lv_at hl 0 rfl) ?_
          refine lv_bipush (v := 6) hx hb dX12_firstOfTwo_41 (by decide) ?_
          refine lv_iconst (v := 2) hx hb dX12_firstOfTwo_43 (by decide) ?_
          obtain ⟨u8, e9, hf⟩ := bd_some hf
          refine xci (xRunV (rest := []) (As := [.int 6, .int 2]) (C := RX12) (k := 2) C0 (c_X12_isSymmetric l E g u3 6 2 e9) bw853 bw860 bw778 bw861 bw862 hd_X12_isSymmetric ⟨Nat.le_of_ble_eq_true rfl, Nat.le_of_ble_eq_true rfl⟩ hP (wM_D hD) hS (va_recv hK hP (ci := 12) rfl (gm_0 E g u3)) rfl hl.1 rfl (Nat.le_of_ble_eq_true rfl) dX12_firstOfTwo_44 ⟨Nat.zero_le _, Nat.zero_le _⟩) hS (fun H locs hP hS => ?_)
          refine lv_if_eq (tgt := 72) hx hb dX12_firstOfTwo_47 (by decide) (fun c10 => ?_) (fun c10 => ?_)
          · replace hf := (if_pos c10).symm.trans hf
            refine lv_iinc (v := (x2 + 1)) (lv' := [(2, .int (x2 + 1)), (0, .ref (E.2.1 0)), (1, .int x1)]) hx hb dX12_firstOfTwo_72 hl (k := 2) rfl rfl (by decide) rfl (fun ls hl => ?_)
            refine lv_goto (tgt := 19) hx hb dX12_firstOfTwo_75 (by decide) ?_
            exact ih u3 x1 (x2 + 1) _ _ _ hP hS (lv_sub hl [1, 2, 0] rfl) hf
          · replace hf := (if_neg c10).symm.trans hf
            refine lv_aload_n hx hb dX12_firstOfTwo_50 rfl (lv_at hl 0 rfl) ?_
            refine lv_bipush (v := 6) hx hb dX12_firstOfTwo_51 (by decide) ?_
            obtain ⟨u11, e12, hf⟩ := bd_some hf
            refine xci (xRunV (rest := []) (As := [.int 6]) (C := RX12) (k := 1) C0 (c_X12_associates l E g u3 6 e12) bw854 bw863 bw778 bw864 bw865 hd_X12_associates ⟨Nat.le_of_ble_eq_true rfl, Nat.le_of_ble_eq_true rfl⟩ hP (wM_D hD) hS (va_recv hK hP (ci := 12) rfl (gm_0 E g u3)) rfl hl.1 rfl (Nat.le_of_ble_eq_true rfl) dX12_firstOfTwo_53 ⟨Nat.zero_le _, Nat.zero_le _⟩) hS (fun H locs hP hS => ?_)
            refine lv_if_eq (tgt := 72) hx hb dX12_firstOfTwo_56 (by decide) (fun c13 => ?_) (fun c13 => ?_)
            · replace hf := (if_pos c13).symm.trans hf
              refine lv_iinc (v := (x2 + 1)) (lv' := [(2, .int (x2 + 1)), (0, .ref (E.2.1 0)), (1, .int x1)]) hx hb dX12_firstOfTwo_72 hl (k := 2) rfl rfl (by decide) rfl (fun ls hl => ?_)
              refine lv_goto (tgt := 19) hx hb dX12_firstOfTwo_75 (by decide) ?_
              exact ih u3 x1 (x2 + 1) _ _ _ hP hS (lv_sub hl [1, 2, 0] rfl) hf
            · replace hf := (if_neg c13).symm.trans hf
              refine lv_aload_n hx hb dX12_firstOfTwo_59 rfl (lv_at hl 0 rfl) ?_
              refine lv_bipush (v := 6) hx hb dX12_firstOfTwo_60 (by decide) ?_
              refine lv_iconst (v := 2) hx hb dX12_firstOfTwo_62 (by decide) ?_
              obtain ⟨u14, e15, hf⟩ := bd_some hf
              refine xci (xRunV (rest := []) (As := [.int 6, .int 2]) (C := RX12) (k := 2) C0 (c_X12_keepsAll l E g u3 6 2 e15) bw841 bw890 bw778 bw891 bw892 hd_X12_keepsAll ⟨Nat.le_of_ble_eq_true rfl, Nat.le_of_ble_eq_true rfl⟩ hP (wM_D hD) hS (va_recv hK hP (ci := 12) rfl (gm_0 E g u3)) rfl hl.1 rfl (Nat.le_of_ble_eq_true rfl) dX12_firstOfTwo_63 ⟨Nat.zero_le _, Nat.zero_le _⟩) hS (fun H locs hP hS => ?_)
              refine lv_if_eq (tgt := 72) hx hb dX12_firstOfTwo_66 (by decide) (fun c16 => ?_) (fun c16 => ?_)
              · replace hf := (if_pos c16).symm.trans hf
                refine lv_iinc (v := (x2 + 1)) (lv' := [(2, .int (x2 + 1)), (0, .ref (E.2.1 0)), (1, .int x1)]) hx hb dX12_firstOfTwo_72 hl (k := 2) rfl rfl (by decide) rfl (fun ls hl => ?_)
                refine lv_goto (tgt := 19) hx hb dX12_firstOfTwo_75 (by decide) ?_
                exact ih u14.2 x1 (x2 + 1) _ _ _ hP hS (lv_sub hl [1, 2, 0] rfl) hf
              · replace hf := (if_neg c16).symm.trans hf
                refine lv_iload_n hx hb dX12_firstOfTwo_69 rfl (lv_at hl 2 rfl) ?_
                refine lv_i2l (v := ((x2 : Int32).toInt64)) hx hb dX12_firstOfTwo_70 rfl ?_
                exact xl_retS (fr := (fun r => r.1)) (fw := (fun r => wM E g r.2)) hx hb hr hlocks (Option.some.inj hf) hP hS dX12_firstOfTwo_71
  refine lv_aload_n hx hb dX12_firstOfTwo_0 rfl (lv_at hl 0 rfl) ?_
  refine va_get (C := RX12) (T := TX12) (N := 22) hx hb hw bfX120 hown hK hP 0 (gm_0 E g a) rfl 0 (by decide) (hw _ bw755) (fun _ h9 => h9) rfl dX12_firstOfTwo_1 ?_
  refine lv_iconst (v := 2) hx hb dX12_firstOfTwo_4 (by decide) ?_
  refine lv_icmp_ne (tgt := 13) hx hb dX12_firstOfTwo_5 (by decide) (fun c1 => ?_) (fun c1 => ?_)
  · replace hf := (if_neg c1).symm.trans hf
    refine lv_sipush (v := 19683) hx hb dX12_firstOfTwo_13 (by decide) ?_
    refine lv_istore_n (lv' := [(1, .int 19683), (0, .ref (E.2.1 0))]) hx hb dX12_firstOfTwo_16 rfl hl (by decide) rfl (fun ls hl => ?_)
    refine lv_iconst (v := 0) hx hb dX12_firstOfTwo_17 (by decide) ?_
    refine lv_istore_n (lv' := [(2, .int 0), (1, .int 19683), (0, .ref (E.2.1 0))]) hx hb dX12_firstOfTwo_18 rfl hl (by decide) rfl (fun ls hl => ?_)
    exact B19 fu a 19683 0 _ _ _ hP hS (lv_sub hl [2, 1, 0] rfl) hf
  · replace hf := (if_pos c1).symm.trans hf
    refine lv_bipush (v := 16) hx hb dX12_firstOfTwo_8 (by decide) ?_
    refine lv_goto (tgt := 16) hx hb dX12_firstOfTwo_10 (by decide) ?_
    refine lv_istore_n (lv' := [(1, .int 16), (0, .ref (E.2.1 0))]) hx hb dX12_firstOfTwo_16 rfl hl (by decide) rfl (fun ls hl => ?_)
    refine lv_iconst (v := 0) hx hb dX12_firstOfTwo_17 (by decide) ?_
    refine lv_istore_n (lv' := [(2, .int 0), (1, .int 16), (0, .ref (E.2.1 0))]) hx hb dX12_firstOfTwo_18 rfl hl (by decide) rfl (fun ls hl => ?_)
    exact B19 fu a 16 0 _ _ _ hP hS (lv_sub hl [2, 1, 0] rfl) hf
def f_X12_triesVote_119 (g : xG) (K4 : xA → Int32 → Int32 → Option (xA)) (a : xA) (x2 : Int32) (x3 : Int32) (x7 : Int32) (s0 : Int32) (s1 : Int32) : Option (xA) := ck (inB s1 189) ((if x7 = 0 then K4 (upA a 4 (upd (a 4) (s1 : Int32).toNatClampNeg s0)) x2 (x3 + 1) else ck (nzB (g 0)) (K4 (upA a 4 (upd (a 4) (s1 : Int32).toNatClampNeg s0)) (x2 / (g 0)) (x3 + 1))))
def f_X12_triesVote_73 (g : xG) (K4 : xA → Int32 → Int32 → Option (xA)) (a : xA) (x2 : Int32) (x3 : Int32) (x4 : Int32) (x5 : Int32) (x6 : Int32) (s0 : Int32) : Option (xA) := (if s0 = 0 then (if x4 = x5 then f_X12_triesVote_119 g K4 a x2 x3 s0 x4 (162 + x3) else (if x4 = x6 then f_X12_triesVote_119 g K4 a x2 x3 s0 x4 (162 + x3) else f_X12_triesVote_119 g K4 a x2 x3 s0 x5 (162 + x3))) else ck (nzB (g 0)) (f_X12_triesVote_119 g K4 a x2 x3 s0 (x2 - x2 / (g 0) * (g 0)) (162 + x3)))
def f_X12_triesVote_4 (g : xG) : Nat → xA → Int32 → Int32 → Option (xA)
  | 0, _, _, _ => none
  | n + 1, a, x2, x3 => Option.bind (f_X12_power g a 3) (fun u1 => (if u1 ≤ x3 then some a else ck (nzB (g 0)) (ck (nzB (g 0)) (ck (nzB (g 0)) (ck (nzB (g 0)) (ck (nzB (g 0)) ((if (x3 - x3 / (g 0) * (g 0)) = ((x3 / (g 0)) - (x3 / (g 0)) / (g 0) * (g 0)) then f_X12_triesVote_73 g (f_X12_triesVote_4 g n) a x2 x3 (x3 - x3 / (g 0) * (g 0)) ((x3 / (g 0)) - (x3 / (g 0)) / (g 0) * (g 0)) ((x3 / (g 0)) / (g 0)) 0 else (if ((x3 / (g 0)) - (x3 / (g 0)) / (g 0) * (g 0)) = ((x3 / (g 0)) / (g 0)) then f_X12_triesVote_73 g (f_X12_triesVote_4 g n) a x2 x3 (x3 - x3 / (g 0) * (g 0)) ((x3 / (g 0)) - (x3 / (g 0)) / (g 0) * (g 0)) ((x3 / (g 0)) / (g 0)) 0 else (if (x3 - x3 / (g 0) * (g 0)) = ((x3 / (g 0)) / (g 0)) then f_X12_triesVote_73 g (f_X12_triesVote_4 g n) a x2 x3 (x3 - x3 / (g 0) * (g 0)) ((x3 / (g 0)) - (x3 / (g 0)) / (g 0) * (g 0)) ((x3 / (g 0)) / (g 0)) 0 else f_X12_triesVote_73 g (f_X12_triesVote_4 g n) a x2 x3 (x3 - x3 / (g 0) * (g 0)) ((x3 / (g 0)) - (x3 / (g 0)) / (g 0) * (g 0)) ((x3 / (g 0)) / (g 0)) 1))))))))))
theorem e_X12_triesVote_4 (g : xG) (n : Nat) (a : xA) (x2 : Int32) (x3 : Int32) : f_X12_triesVote_4 g (n + 1) a x2 x3 = Option.bind (f_X12_power g a 3) (fun u1 => (if u1 ≤ x3 then some a else ck (nzB (g 0)) (ck (nzB (g 0)) (ck (nzB (g 0)) (ck (nzB (g 0)) (ck (nzB (g 0)) ((if (x3 - x3 / (g 0) * (g 0)) = ((x3 / (g 0)) - (x3 / (g 0)) / (g 0) * (g 0)) then f_X12_triesVote_73 g (f_X12_triesVote_4 g n) a x2 x3 (x3 - x3 / (g 0) * (g 0)) ((x3 / (g 0)) - (x3 / (g 0)) / (g 0) * (g 0)) ((x3 / (g 0)) / (g 0)) 0 else (if ((x3 / (g 0)) - (x3 / (g 0)) / (g 0) * (g 0)) = ((x3 / (g 0)) / (g 0)) then f_X12_triesVote_73 g (f_X12_triesVote_4 g n) a x2 x3 (x3 - x3 / (g 0) * (g 0)) ((x3 / (g 0)) - (x3 / (g 0)) / (g 0) * (g 0)) ((x3 / (g 0)) / (g 0)) 0 else (if (x3 - x3 / (g 0) * (g 0)) = ((x3 / (g 0)) / (g 0)) then f_X12_triesVote_73 g (f_X12_triesVote_4 g n) a x2 x3 (x3 - x3 / (g 0) * (g 0)) ((x3 / (g 0)) - (x3 / (g 0)) / (g 0) * (g 0)) ((x3 / (g 0)) / (g 0)) 0 else f_X12_triesVote_73 g (f_X12_triesVote_4 g n) a x2 x3 (x3 - x3 / (g 0) * (g 0)) ((x3 / (g 0)) - (x3 / (g 0)) / (g 0) * (g 0)) ((x3 / (g 0)) / (g 0)) 1)))))))))) := rfl
def f_X12_triesVote (g : xG) (a : xA) (v1 : Int32) : Option (xA) := f_X12_triesVote_4 g fu a v1 0
set_option maxRecDepth 100000 in
set_option maxHeartbeats 40000000 in
theorem c_X12_triesVote (l : Launch) (E : xE) (g : xG) (a : xA) (v1 : Int32) {res : xA} (hf : f_X12_triesVote g a v1 = some res) : xM l E yX12_triesVote cX12_triesVote 8 none 1 23 [.ref (E.2.1 0), .int v1] (wM E g a) (xQv E (wM E g res)) := by
  unfold f_X12_triesVote at hf
  refine xM_of (by decide) (Nat.le_of_ble_eq_true rfl) ?_
  intro p e s m below meth c A hx hb hr hml hts hown hlocks hA hD hP hK hN hS ls hl
  have hw : ∀ w ∈ BW, w.before _ s = true := fun w h => hts w (List.mem_cons_of_mem _ h)
  have C0 : xCtx E p m c cX12_triesVote 8 s _ RX12 A yX12_triesVote cX12_triesVote 8 none := ⟨hx, hb, hml, hown, hts, hA, hK, hN⟩
  have hl : lv_has ls 8 [(0, .ref (E.2.1 0)), (1, .int v1)] := hl
  have B119 : ∀ (K4 : xA → Int32 → Int32 → Option (xA)) (hK4 : ∀ (a : xA) (x2 : Int32) (x3 : Int32) (H : Heap) (locs : List Loc) (ls : Array Slot), va_P E.1 vwCl (wM E g a) H → va_S A s.heap H locs → lv_has ls 8 [(0, .ref (E.2.1 0)), (2, .int x2), (3, .int x3)] → K4 a x2 x3 = some res → W p l e ({ frames := 1, cells := 0, slots := 0, locals := 23 }) s m ([.ref (E.2.1 0), .int v1] : List Value).toArray below meth c H locs 0 0 (MQ below ((xQv E (wM E g res)) A) ([.ref (E.2.1 0), .int v1] : List Value).toArray s 0 0 A) (F0 m 4 ls [])) (a : xA) (x2 : Int32) (x3 : Int32) (x7 : Int32) (s0 : Int32) (s1 : Int32) (H : Heap) (locs : List Loc) (ls : Array Slot), va_P E.1 vwCl (wM E g a) H → va_S A s.heap H locs → lv_has ls 8 [(0, .ref (E.2.1 0)), (2, .int x2), (3, .int x3), (7, .int x7)] → f_X12_triesVote_119 g K4 a x2 x3 x7 s0 s1 = some res → W p l e ({ frames := 1, cells := 0, slots := 0, locals := 23 }) s m ([.ref (E.2.1 0), .int v1] : List Value).toArray below meth c H locs 0 0 (MQ below ((xQv E (wM E g res)) A) ([.ref (E.2.1 0), .int v1] : List Value).toArray s 0 0 A) (F0 m 119 ls [.int s0, .int s1, .ref (E.2.1 4)]) := by
    intro K4 hK4 a x2 x3 x7 s0 s1 H locs ls hP hS hl hf
    unfold f_X12_triesVote_119 at hf
    obtain ⟨k16, hf⟩ := ck_some hf
    refine va_iast hx hb hK hP (wM_D hD) hS 4 0 (gm_4 E g a) rfl (inB_in k16) dX12_triesVote_119 (fun H locs hP _ hS => ?_)
    have hP := xP_eq (sm_a4 E g a (upd (a 4) (s1 : Int32).toNatClampNeg s0)) hP
    refine lv_iload hx hb dX12_triesVote_120 (lv_at hl 3 rfl) ?_
    refine lv_if_eq (tgt := 134) hx hb dX12_triesVote_122 (by decide) (fun c17 => ?_) (fun c17 => ?_)
    · replace hf := (if_pos c17).symm.trans hf
      refine lv_iload_n hx hb dX12_triesVote_134 rfl (lv_at hl 1 rfl) ?_
      refine lv_istore_n (lv' := [(2, .int x2), (0, .ref (E.2.1 0)), (3, .int x3), (7, .int x7)]) hx hb dX12_triesVote_135 rfl hl (by decide) rfl (fun ls hl => ?_)
      refine lv_iinc (v := (x3 + 1)) (lv' := [(3, .int (x3 + 1)), (2, .int x2), (0, .ref (E.2.1 0)), (7, .int x7)]) hx hb dX12_triesVote_136 hl (k := 2) rfl rfl (by decide) rfl (fun ls hl => ?_)
      refine lv_goto (tgt := 4) hx hb dX12_triesVote_139 (by decide) ?_
      exact hK4 (upA a 4 (upd (a 4) (s1 : Int32).toNatClampNeg s0)) x2 (x3 + 1) _ _ _ hP hS (lv_sub hl [2, 1, 0] rfl) hf
    · replace hf := (if_neg c17).symm.trans hf
      refine lv_iload_n hx hb dX12_triesVote_125 rfl (lv_at hl 1 rfl) ?_
      refine lv_aload_n hx hb dX12_triesVote_126 rfl (lv_at hl 0 rfl) ?_
      refine va_get (C := RX12) (T := TX12) (N := 22) hx hb hw bfX120 hown hK hP 0 (gm_0 E g (upA a 4 (upd (a 4) (s1 : Int32).toNatClampNeg s0))) rfl 0 (by decide) (hw _ bw755) (fun _ h9 => h9) rfl dX12_triesVote_127 ?_
      obtain ⟨k18, hf⟩ := ck_some hf
      refine lv_idiv hx hb dX12_triesVote_130 (nzB_nz k18) ?_
      refine lv_goto (tgt := 135) hx hb dX12_triesVote_131 (by decide) ?_
      refine lv_istore_n (lv' := [(2, .int (x2 / (g 0))), (0, .ref (E.2.1 0)), (3, .int x3), (7, .int x7)]) hx hb dX12_triesVote_135 rfl hl (by decide) rfl (fun ls hl => ?_)
      refine lv_iinc (v := (x3 + 1)) (lv' := [(3, .int (x3 + 1)), (2, .int (x2 / (g 0))), (0, .ref (E.2.1 0)), (7, .int x7)]) hx hb dX12_triesVote_136 hl (k := 2) rfl rfl (by decide) rfl (fun ls hl => ?_)
      refine lv_goto (tgt := 4) hx hb dX12_triesVote_139 (by decide) ?_
      exact hK4 (upA a 4 (upd (a 4) (s1 : Int32).toNatClampNeg s0)) (x2 / (g 0)) (x3 + 1) _ _ _ hP hS (lv_sub hl [2, 1, 0] rfl) hf
  have B73 : ∀ (K4 : xA → Int32 → Int32 → Option (xA)) (hK4 : ∀ (a : xA) (x2 : Int32) (x3 : Int32) (H : Heap) (locs : List Loc) (ls : Array Slot), va_P E.1 vwCl (wM E g a) H → va_S A s.heap H locs → lv_has ls 8 [(0, .ref (E.2.1 0)), (2, .int x2), (3, .int x3)] → K4 a x2 x3 = some res → W p l e ({ frames := 1, cells := 0, slots := 0, locals := 23 }) s m ([.ref (E.2.1 0), .int v1] : List Value).toArray below meth c H locs 0 0 (MQ below ((xQv E (wM E g res)) A) ([.ref (E.2.1 0), .int v1] : List Value).toArray s 0 0 A) (F0 m 4 ls [])) (a : xA) (x2 : Int32) (x3 : Int32) (x4 : Int32) (x5 : Int32) (x6 : Int32) (s0 : Int32) (H : Heap) (locs : List Loc) (ls : Array Slot), va_P E.1 vwCl (wM E g a) H → va_S A s.heap H locs → lv_has ls 8 [(0, .ref (E.2.1 0)), (2, .int x2), (3, .int x3), (4, .int x4), (5, .int x5), (6, .int x6)] → f_X12_triesVote_73 g K4 a x2 x3 x4 x5 x6 s0 = some res → W p l e ({ frames := 1, cells := 0, slots := 0, locals := 23 }) s m ([.ref (E.2.1 0), .int v1] : List Value).toArray below meth c H locs 0 0 (MQ below ((xQv E (wM E g res)) A) ([.ref (E.2.1 0), .int v1] : List Value).toArray s 0 0 A) (F0 m 73 ls [.int s0]) := by
    intro K4 hK4 a x2 x3 x4 x5 x6 s0 H locs ls hP hS hl hf
    unfold f_X12_triesVote_73 at hf
    refine lv_istore (lv' := [(7, .int s0), (0, .ref (E.2.1 0)), (2, .int x2), (3, .int x3), (4, .int x4), (5, .int x5), (6, .int x6)]) hx hb dX12_triesVote_73 hl (by decide) rfl (fun ls hl => ?_)
    refine lv_aload_n hx hb dX12_triesVote_75 rfl (lv_at hl 1 rfl) ?_
    refine va_get (C := RX12) (T := TX12) (N := 22) hx hb hw bfX120 hown hK hP 0 (gm_0 E g a) rfl 6 (by decide) (hw _ bw759) (fun _ h9 => h9) rfl dX12_triesVote_76 ?_
    refine lv_sipush (v := 162) hx hb dX12_triesVote_79 (by decide) ?_
    refine lv_iload_n hx hb dX12_triesVote_82 rfl (lv_at hl 3 rfl) ?_
    refine lv_iadd hx hb dX12_triesVote_83 ?_
    refine lv_iload hx hb dX12_triesVote_84 (lv_at hl 0 rfl) ?_
    refine lv_if_eq (tgt := 98) hx hb dX12_triesVote_86 (by decide) (fun c12 => ?_) (fun c12 => ?_)
    · replace hf := (if_pos c12).symm.trans hf
      refine lv_iload hx hb dX12_triesVote_98 (lv_at hl 4 rfl) ?_
      refine lv_iload hx hb dX12_triesVote_100 (lv_at hl 5 rfl) ?_
      refine lv_icmp_eq (tgt := 112) hx hb dX12_triesVote_102 (by decide) (fun c13 => ?_) (fun c13 => ?_)
      · replace hf := (if_pos c13).symm.trans hf
        refine lv_iload hx hb dX12_triesVote_112 (lv_at hl 4 rfl) ?_
        refine lv_goto (tgt := 119) hx hb dX12_triesVote_114 (by decide) ?_
        exact B119 K4 hK4 a x2 x3 s0 x4 (162 + x3) _ _ _ hP hS (lv_sub hl [1, 2, 3, 0] rfl) hf
      · replace hf := (if_neg c13).symm.trans hf
        refine lv_iload hx hb dX12_triesVote_105 (lv_at hl 4 rfl) ?_
        refine lv_iload hx hb dX12_triesVote_107 (lv_at hl 6 rfl) ?_
        refine lv_icmp_ne (tgt := 117) hx hb dX12_triesVote_109 (by decide) (fun c14 => ?_) (fun c14 => ?_)
        · replace hf := (if_neg c14).symm.trans hf
          refine lv_iload hx hb dX12_triesVote_117 (lv_at hl 5 rfl) ?_
          exact B119 K4 hK4 a x2 x3 s0 x5 (162 + x3) _ _ _ hP hS (lv_sub hl [1, 2, 3, 0] rfl) hf
        · replace hf := (if_pos c14).symm.trans hf
          refine lv_iload hx hb dX12_triesVote_112 (lv_at hl 4 rfl) ?_
          refine lv_goto (tgt := 119) hx hb dX12_triesVote_114 (by decide) ?_
          exact B119 K4 hK4 a x2 x3 s0 x4 (162 + x3) _ _ _ hP hS (lv_sub hl [1, 2, 3, 0] rfl) hf
    · replace hf := (if_neg c12).symm.trans hf
      refine lv_iload_n hx hb dX12_triesVote_89 rfl (lv_at hl 2 rfl) ?_
      refine lv_aload_n hx hb dX12_triesVote_90 rfl (lv_at hl 1 rfl) ?_
      refine va_get (C := RX12) (T := TX12) (N := 22) hx hb hw bfX120 hown hK hP 0 (gm_0 E g a) rfl 0 (by decide) (hw _ bw755) (fun _ h9 => h9) rfl dX12_triesVote_91 ?_
      obtain ⟨k15, hf⟩ := ck_some hf
      refine lv_irem hx hb dX12_triesVote_94 (nzB_nz k15) ?_
      refine lv_goto (tgt := 119) hx hb dX12_triesVote_95 (by decide) ?_
      exact B119 K4 hK4 a x2 x3 s0 (x2 - x2 / (g 0) * (g 0)) (162 + x3) _ _ _ hP hS (lv_sub hl [1, 2, 3, 0] rfl) hf
  have B4 : ∀ (n : Nat) (a : xA) (x2 : Int32) (x3 : Int32) (H : Heap) (locs : List Loc) (ls : Array Slot), va_P E.1 vwCl (wM E g a) H → va_S A s.heap H locs → lv_has ls 8 [(0, .ref (E.2.1 0)), (2, .int x2), (3, .int x3)] → f_X12_triesVote_4 g n a x2 x3 = some res → W p l e ({ frames := 1, cells := 0, slots := 0, locals := 23 }) s m ([.ref (E.2.1 0), .int v1] : List Value).toArray below meth c H locs 0 0 (MQ below ((xQv E (wM E g res)) A) ([.ref (E.2.1 0), .int v1] : List Value).toArray s 0 0 A) (F0 m 4 ls []) := by
    intro n
    induction n with
    | zero => intro a x2 x3 H locs ls hP hS hl hf; exact absurd (show (none : Option (xA)) = some res from hf) (by intro h; cases h)
    | succ n ih =>
      intro a x2 x3 H locs ls hP hS hl hf
      replace hf := (e_X12_triesVote_4 g n a x2 x3).symm.trans hf
      refine lv_iload_n hx hb dX12_triesVote_4 rfl (lv_at hl 2 rfl) ?_
      refine lv_aload_n hx hb dX12_triesVote_5 rfl (lv_at hl 0 rfl) ?_
      refine lv_iconst (v := 3) hx hb dX12_triesVote_6 (by decide) ?_
      obtain ⟨u1, e2, hf⟩ := bd_some hf
      refine xci (xRunV (rest := [.int x3]) (As := [.int 3]) (C := RX12) (k := 1) C0 (c_X12_power l E g a 3 e2) bw773 bw775 bw778 bw776 bw777 hd_X12_power ⟨Nat.le_of_ble_eq_true rfl, Nat.le_of_ble_eq_true rfl⟩ hP (wM_D hD) hS (va_recv hK hP (ci := 12) rfl (gm_0 E g a)) rfl hl.1 rfl (Nat.le_of_ble_eq_true rfl) dX12_triesVote_7 ⟨Nat.zero_le _, Nat.zero_le _⟩) hS (fun H locs hP hS => ?_)
      refine lv_icmp_ge (tgt := 142) hx hb dX12_triesVote_10 (by decide) (fun c3 => ?_) (fun c3 => ?_)
      · replace hf := (if_pos c3).symm.trans hf
        exact xv_retS (fw := (fun r => wM E g r)) hx hb hr hlocks (Option.some.inj hf) hP hS dX12_triesVote_142
      · replace hf := (if_neg c3).symm.trans hf
        refine lv_iload_n hx hb dX12_triesVote_13 rfl (lv_at hl 2 rfl) ?_
        refine lv_aload_n hx hb dX12_triesVote_14 rfl (lv_at hl 0 rfl) ?_
        refine va_get (C := RX12) (T := TX12) (N := 22) hx hb hw bfX120 hown hK hP 0 (gm_0 E g a) rfl 0 (by decide) (hw _ bw755) (fun _ h9 => h9) rfl dX12_triesVote_15 ?_
        obtain ⟨k4, hf⟩ := ck_some hf
        refine lv_irem hx hb dX12_triesVote_18 (nzB_nz k4) ?_
        refine lv_istore (lv' := [(4, .int (x3 - x3 / (g 0) * (g 0))), (0, .ref (E.2.1 0)), (2, .int x2), (3, .int x3)]) hx hb dX12_triesVote_19 hl (by decide) rfl (fun ls hl => ?_)
        refine lv_iload_n hx hb dX12_triesVote_21 rfl (lv_at hl 3 rfl) ?_
        refine lv_aload_n hx hb dX12_triesVote_22 rfl (lv_at hl 1 rfl) ?_
        refine va_get (C := RX12) (T := TX12) (N := 22) hx hb hw bfX120 hown hK hP 0 (gm_0 E g a) rfl 0 (by decide) (hw _ bw755) (fun _ h9 => h9) rfl dX12_triesVote_23 ?_
        obtain ⟨k5, hf⟩ := ck_some hf
        refine lv_idiv hx hb dX12_triesVote_26 (nzB_nz k5) ?_
        refine lv_aload_n hx hb dX12_triesVote_27 rfl (lv_at hl 1 rfl) ?_
        refine va_get (C := RX12) (T := TX12) (N := 22) hx hb hw bfX120 hown hK hP 0 (gm_0 E g a) rfl 0 (by decide) (hw _ bw755) (fun _ h9 => h9) rfl dX12_triesVote_28 ?_
        obtain ⟨k6, hf⟩ := ck_some hf
        refine lv_irem hx hb dX12_triesVote_31 (nzB_nz k6) ?_
        refine lv_istore (lv' := [(5, .int ((x3 / (g 0)) - (x3 / (g 0)) / (g 0) * (g 0))), (4, .int (x3 - x3 / (g 0) * (g 0))), (0, .ref (E.2.1 0)), (2, .int x2), (3, .int x3)]) hx hb dX12_triesVote_32 hl (by decide) rfl (fun ls hl => ?_)
        refine lv_iload_n hx hb dX12_triesVote_34 rfl (lv_at hl 4 rfl) ?_
        refine lv_aload_n hx hb dX12_triesVote_35 rfl (lv_at hl 2 rfl) ?_
        refine va_get (C := RX12) (T := TX12) (N := 22) hx hb hw bfX120 hown hK hP 0 (gm_0 E g a) rfl 0 (by decide) (hw _ bw755) (fun _ h9 => h9) rfl dX12_triesVote_36 ?_
        obtain ⟨k7, hf⟩ := ck_some hf
        refine lv_idiv hx hb dX12_triesVote_39 (nzB_nz k7) ?_
        refine lv_aload_n hx hb dX12_triesVote_40 rfl (lv_at hl 2 rfl) ?_
        refine va_get (C := RX12) (T := TX12) (N := 22) hx hb hw bfX120 hown hK hP 0 (gm_0 E g a) rfl 0 (by decide) (hw _ bw755) (fun _ h9 => h9) rfl dX12_triesVote_41 ?_
        obtain ⟨k8, hf⟩ := ck_some hf
        refine lv_idiv hx hb dX12_triesVote_44 (nzB_nz k8) ?_
        refine lv_istore (lv' := [(6, .int ((x3 / (g 0)) / (g 0))), (5, .int ((x3 / (g 0)) - (x3 / (g 0)) / (g 0) * (g 0))), (4, .int (x3 - x3 / (g 0) * (g 0))), (0, .ref (E.2.1 0)), (2, .int x2), (3, .int x3)]) hx hb dX12_triesVote_45 hl (by decide) rfl (fun ls hl => ?_)
        refine lv_iload hx hb dX12_triesVote_47 (lv_at hl 2 rfl) ?_
        refine lv_iload hx hb dX12_triesVote_49 (lv_at hl 1 rfl) ?_
        refine lv_icmp_eq (tgt := 72) hx hb dX12_triesVote_51 (by decide) (fun c9 => ?_) (fun c9 => ?_)
        · replace hf := (if_pos c9).symm.trans hf
          refine lv_iconst (v := 0) hx hb dX12_triesVote_72 (by decide) ?_
          exact B73 (f_X12_triesVote_4 g n) ih a x2 x3 (x3 - x3 / (g 0) * (g 0)) ((x3 / (g 0)) - (x3 / (g 0)) / (g 0) * (g 0)) ((x3 / (g 0)) / (g 0)) 0 _ _ _ hP hS (lv_sub hl [3, 4, 5, 2, 1, 0] rfl) hf
        · replace hf := (if_neg c9).symm.trans hf
          refine lv_iload hx hb dX12_triesVote_54 (lv_at hl 1 rfl) ?_
          refine lv_iload hx hb dX12_triesVote_56 (lv_at hl 0 rfl) ?_
          refine lv_icmp_eq (tgt := 72) hx hb dX12_triesVote_58 (by decide) (fun c10 => ?_) (fun c10 => ?_)
          · replace hf := (if_pos c10).symm.trans hf
            refine lv_iconst (v := 0) hx hb dX12_triesVote_72 (by decide) ?_
            exact B73 (f_X12_triesVote_4 g n) ih a x2 x3 (x3 - x3 / (g 0) * (g 0)) ((x3 / (g 0)) - (x3 / (g 0)) / (g 0) * (g 0)) ((x3 / (g 0)) / (g 0)) 0 _ _ _ hP hS (lv_sub hl [3, 4, 5, 2, 1, 0] rfl) hf
          · replace hf := (if_neg c10).symm.trans hf
            refine lv_iload hx hb dX12_triesVote_61 (lv_at hl 2 rfl) ?_
            refine lv_iload hx hb dX12_triesVote_63 (lv_at hl 0 rfl) ?_
            refine lv_icmp_eq (tgt := 72) hx hb dX12_triesVote_65 (by decide) (fun c11 => ?_) (fun c11 => ?_)
            · replace hf := (if_pos c11).symm.trans hf
              refine lv_iconst (v := 0) hx hb dX12_triesVote_72 (by decide) ?_
              exact B73 (f_X12_triesVote_4 g n) ih a x2 x3 (x3 - x3 / (g 0) * (g 0)) ((x3 / (g 0)) - (x3 / (g 0)) / (g 0) * (g 0)) ((x3 / (g 0)) / (g 0)) 0 _ _ _ hP hS (lv_sub hl [3, 4, 5, 2, 1, 0] rfl) hf
            · replace hf := (if_neg c11).symm.trans hf
              refine lv_iconst (v := 1) hx hb dX12_triesVote_68 (by decide) ?_
              refine lv_goto (tgt := 73) hx hb dX12_triesVote_69 (by decide) ?_
              exact B73 (f_X12_triesVote_4 g n) ih a x2 x3 (x3 - x3 / (g 0) * (g 0)) ((x3 / (g 0)) - (x3 / (g 0)) / (g 0) * (g 0)) ((x3 / (g 0)) / (g 0)) 1 _ _ _ hP hS (lv_sub hl [3, 4, 5, 2, 1, 0] rfl) hf
  refine lv_iload_n hx hb dX12_triesVote_0 rfl (lv_at hl 1 rfl) ?_
  refine lv_istore_n (lv' := [(2, .int v1), (0, .ref (E.2.1 0)), (1, .int v1)]) hx hb dX12_triesVote_1 rfl hl (by decide) rfl (fun ls hl => ?_)
  refine lv_iconst (v := 0) hx hb dX12_triesVote_2 (by decide) ?_
  refine lv_istore_n (lv' := [(3, .int 0), (2, .int v1), (0, .ref (E.2.1 0)), (1, .int v1)]) hx hb dX12_triesVote_3 rfl hl (by decide) rfl (fun ls hl => ?_)
  exact B4 fu a v1 0 _ _ _ hP hS (lv_sub hl [2, 1, 0] rfl) hf
def f_X12_firstVote_18 (g : xG) : Nat → xA → Int32 → Int32 → Option (Int64 × xA)
  | 0, _, _, _ => none
  | n + 1, a, x1, x2 => (if x1 ≤ x2 then some ((-1), a) else Option.bind (f_X12_triesVote g a x2) (fun u3 => Option.bind (f_X12_keepsAll g u3 6 3) (fun u5 => (if u5.1 = 0 then f_X12_firstVote_18 g n u5.2 x1 (x2 + 1) else Option.bind (f_X12_codeOf g u5.2 6 3) (fun u8 => some (u8, u5.2))))))
theorem e_X12_firstVote_18 (g : xG) (n : Nat) (a : xA) (x1 : Int32) (x2 : Int32) : f_X12_firstVote_18 g (n + 1) a x1 x2 = (if x1 ≤ x2 then some ((-1), a) else Option.bind (f_X12_triesVote g a x2) (fun u3 => Option.bind (f_X12_keepsAll g u3 6 3) (fun u5 => (if u5.1 = 0 then f_X12_firstVote_18 g n u5.2 x1 (x2 + 1) else Option.bind (f_X12_codeOf g u5.2 6 3) (fun u8 => some (u8, u5.2)))))) := rfl
def f_X12_firstVote (g : xG) (a : xA) : Option (Int64 × xA) := (if (g 0) = 2 then f_X12_firstVote_18 g fu a 1 0 else f_X12_firstVote_18 g fu a 729 0)
set_option maxRecDepth 100000 in
set_option maxHeartbeats 40000000 in
theorem c_X12_firstVote (l : Launch) (E : xE) (g : xG) (a : xA) {res : Int64 × xA} (hf : f_X12_firstVote g a = some res) : xM l E yX12_firstVote cX12_firstVote 3 (some .long) 6 147 [.ref (E.2.1 0)] (wM E g a) (xQl E res.1 (wM E g res.2)) := by
  unfold f_X12_firstVote at hf
  refine xM_of (by decide) (Nat.le_of_ble_eq_true rfl) ?_
  intro p e s m below meth c A hx hb hr hml hts hown hlocks hA hD hP hK hN hS ls hl
  have hw : ∀ w ∈ BW, w.before _ s = true := fun w h => hts w (List.mem_cons_of_mem _ h)
  have C0 : xCtx E p m c cX12_firstVote 3 s _ RX12 A yX12_firstVote cX12_firstVote 3 (some .long) := ⟨hx, hb, hml, hown, hts, hA, hK, hN⟩
  have hl : lv_has ls 3 [(0, .ref (E.2.1 0))] := hl
  have B18 : ∀ (n : Nat) (a : xA) (x1 : Int32) (x2 : Int32) (H : Heap) (locs : List Loc) (ls : Array Slot), va_P E.1 vwCl (wM E g a) H → va_S A s.heap H locs → lv_has ls 3 [(0, .ref (E.2.1 0)), (1, .int x1), (2, .int x2)] → f_X12_firstVote_18 g n a x1 x2 = some res → W p l e ({ frames := 6, cells := 0, slots := 0, locals := 147 }) s m ([.ref (E.2.1 0)] : List Value).toArray below meth c H locs 0 0 (MQ below ((xQl E res.1 (wM E g res.2)) A) ([.ref (E.2.1 0)] : List Value).toArray s 0 0 A) (F0 m 18 ls []) := by
    intro n
    induction n with
    | zero => intro a x1 x2 H locs ls hP hS hl hf; exact absurd (show (none : Option (Int64 × xA)) = some res from hf) (by intro h; cases h)
    | succ n ih =>
      intro a x1 x2 H locs ls hP hS hl hf
      replace hf := (e_X12_firstVote_18 g n a x1 x2).symm.trans hf
      refine lv_iload_n hx hb dX12_firstVote_18 rfl (lv_at hl 2 rfl) ?_
      refine lv_iload_n hx hb dX12_firstVote_19 rfl (lv_at hl 1 rfl) ?_
      refine lv_icmp_ge (tgt := 52) hx hb dX12_firstVote_20 (by decide) (fun c2 => ?_) (fun c2 => ?_)
      · replace hf := (if_pos c2).symm.trans hf
        refine lv_ldc2 hx hb hown (hw _ bw886) dX12_firstVote_52 ?_
        exact xl_retS (fr := (fun r => r.1)) (fw := (fun r => wM E g r.2)) hx hb hr hlocks (Option.some.inj hf) hP hS dX12_firstVote_55
      · replace hf := (if_neg c2).symm.trans hf
        refine lv_aload_n hx hb dX12_firstVote_23 rfl (lv_at hl 0 rfl) ?_
        refine lv_iload_n hx hb dX12_firstVote_24 rfl (lv_at hl 2 rfl) ?_
        obtain ⟨u3, e4, hf⟩ := bd_some hf
        refine xcv (xRunV (rest := []) (As := [.int x2]) (C := RX12) (k := 1) C0 (c_X12_triesVote l E g a x2 e4) bw894 bw895 bw778 bw896 bw897 hd_X12_triesVote ⟨Nat.le_of_ble_eq_true rfl, Nat.le_of_ble_eq_true rfl⟩ hP (wM_D hD) hS (va_recv hK hP (ci := 12) rfl (gm_0 E g a)) rfl hl.1 rfl (Nat.le_of_ble_eq_true rfl) dX12_firstVote_25 ⟨Nat.zero_le _, Nat.zero_le _⟩) hS (fun H locs hP hS => ?_)
        refine lv_aload_n hx hb dX12_firstVote_28 rfl (lv_at hl 0 rfl) ?_
        refine lv_bipush (v := 6) hx hb dX12_firstVote_29 (by decide) ?_
        refine lv_iconst (v := 3) hx hb dX12_firstVote_31 (by decide) ?_
        obtain ⟨u5, e6, hf⟩ := bd_some hf
        refine xci (xRunV (rest := []) (As := [.int 6, .int 3]) (C := RX12) (k := 2) C0 (c_X12_keepsAll l E g u3 6 3 e6) bw841 bw890 bw778 bw891 bw892 hd_X12_keepsAll ⟨Nat.le_of_ble_eq_true rfl, Nat.le_of_ble_eq_true rfl⟩ hP (wM_D hD) hS (va_recv hK hP (ci := 12) rfl (gm_0 E g u3)) rfl hl.1 rfl (Nat.le_of_ble_eq_true rfl) dX12_firstVote_32 ⟨Nat.zero_le _, Nat.zero_le _⟩) hS (fun H locs hP hS => ?_)
        refine lv_if_eq (tgt := 46) hx hb dX12_firstVote_35 (by decide) (fun c7 => ?_) (fun c7 => ?_)
        · replace hf := (if_pos c7).symm.trans hf
          refine lv_iinc (v := (x2 + 1)) (lv' := [(2, .int (x2 + 1)), (0, .ref (E.2.1 0)), (1, .int x1)]) hx hb dX12_firstVote_46 hl (k := 2) rfl rfl (by decide) rfl (fun ls hl => ?_)
          refine lv_goto (tgt := 18) hx hb dX12_firstVote_49 (by decide) ?_
          exact ih u5.2 x1 (x2 + 1) _ _ _ hP hS (lv_sub hl [1, 2, 0] rfl) hf
        · replace hf := (if_neg c7).symm.trans hf
          refine lv_aload_n hx hb dX12_firstVote_38 rfl (lv_at hl 0 rfl) ?_
          refine lv_bipush (v := 6) hx hb dX12_firstVote_39 (by decide) ?_
          refine lv_iconst (v := 3) hx hb dX12_firstVote_41 (by decide) ?_
          obtain ⟨u8, e9, hf⟩ := bd_some hf
          refine xcl (xRunV (rest := []) (As := [.int 6, .int 3]) (C := RX12) (k := 2) C0 (c_X12_codeOf l E g u5.2 6 3 e9) bw817 bw819 bw778 bw820 bw821 hd_X12_codeOf ⟨Nat.le_of_ble_eq_true rfl, Nat.le_of_ble_eq_true rfl⟩ hP (wM_D hD) hS (va_recv hK hP (ci := 12) rfl (gm_0 E g u5.2)) rfl hl.1 rfl (Nat.le_of_ble_eq_true rfl) dX12_firstVote_42 ⟨Nat.zero_le _, Nat.zero_le _⟩) hS (fun H locs hP hS => ?_)
          exact xl_retS (fr := (fun r => r.1)) (fw := (fun r => wM E g r.2)) hx hb hr hlocks (Option.some.inj hf) hP hS dX12_firstVote_45
  refine lv_aload_n hx hb dX12_firstVote_0 rfl (lv_at hl 0 rfl) ?_
  refine va_get (C := RX12) (T := TX12) (N := 22) hx hb hw bfX120 hown hK hP 0 (gm_0 E g a) rfl 0 (by decide) (hw _ bw755) (fun _ h9 => h9) rfl dX12_firstVote_1 ?_
  refine lv_iconst (v := 2) hx hb dX12_firstVote_4 (by decide) ?_
  refine lv_icmp_ne (tgt := 12) hx hb dX12_firstVote_5 (by decide) (fun c1 => ?_) (fun c1 => ?_)
  · replace hf := (if_neg c1).symm.trans hf
    refine lv_sipush (v := 729) hx hb dX12_firstVote_12 (by decide) ?_
    refine lv_istore_n (lv' := [(1, .int 729), (0, .ref (E.2.1 0))]) hx hb dX12_firstVote_15 rfl hl (by decide) rfl (fun ls hl => ?_)
    refine lv_iconst (v := 0) hx hb dX12_firstVote_16 (by decide) ?_
    refine lv_istore_n (lv' := [(2, .int 0), (1, .int 729), (0, .ref (E.2.1 0))]) hx hb dX12_firstVote_17 rfl hl (by decide) rfl (fun ls hl => ?_)
    exact B18 fu a 729 0 _ _ _ hP hS (lv_sub hl [2, 1, 0] rfl) hf
  · replace hf := (if_pos c1).symm.trans hf
    refine lv_iconst (v := 1) hx hb dX12_firstVote_8 (by decide) ?_
    refine lv_goto (tgt := 15) hx hb dX12_firstVote_9 (by decide) ?_
    refine lv_istore_n (lv' := [(1, .int 1), (0, .ref (E.2.1 0))]) hx hb dX12_firstVote_15 rfl hl (by decide) rfl (fun ls hl => ?_)
    refine lv_iconst (v := 0) hx hb dX12_firstVote_16 (by decide) ?_
    refine lv_istore_n (lv' := [(2, .int 0), (1, .int 1), (0, .ref (E.2.1 0))]) hx hb dX12_firstVote_17 rfl hl (by decide) rfl (fun ls hl => ?_)
    exact B18 fu a 1 0 _ _ _ hP hS (lv_sub hl [2, 1, 0] rfl) hf
def f_X12_firstConstant_12 (g : xG) (K2 : xA → Int32 → Option (Int64 × xA)) : Nat → xA → Int32 → Int32 → Option (Int64 × xA)
  | 0, _, _, _ => none
  | n + 1, a, x1, x2 => (if (g 0) ≤ x2 then Option.bind (f_X12_keepsAll g a 6 1) (fun u3 => (if u3.1 = 0 then K2 u3.2 (x1 + 1) else Option.bind (f_X12_codeOf g u3.2 6 1) (fun u6 => some (u6, u3.2)))) else ck (inB (162 + x2) 189) (f_X12_firstConstant_12 g K2 n (upA a 4 (upd (a 4) ((162 + x2) : Int32).toNatClampNeg x1)) x1 (x2 + 1)))
theorem e_X12_firstConstant_12 (g : xG) (K2 : xA → Int32 → Option (Int64 × xA)) (n : Nat) (a : xA) (x1 : Int32) (x2 : Int32) : f_X12_firstConstant_12 g K2 (n + 1) a x1 x2 = (if (g 0) ≤ x2 then Option.bind (f_X12_keepsAll g a 6 1) (fun u3 => (if u3.1 = 0 then K2 u3.2 (x1 + 1) else Option.bind (f_X12_codeOf g u3.2 6 1) (fun u6 => some (u6, u3.2)))) else ck (inB (162 + x2) 189) (f_X12_firstConstant_12 g K2 n (upA a 4 (upd (a 4) ((162 + x2) : Int32).toNatClampNeg x1)) x1 (x2 + 1))) := rfl
def f_X12_firstConstant_2 (g : xG) : Nat → xA → Int32 → Option (Int64 × xA)
  | 0, _, _ => none
  | n + 1, a, x1 => (if (g 0) ≤ x1 then some ((-1), a) else f_X12_firstConstant_12 g (f_X12_firstConstant_2 g n) fu a x1 0)
theorem e_X12_firstConstant_2 (g : xG) (n : Nat) (a : xA) (x1 : Int32) : f_X12_firstConstant_2 g (n + 1) a x1 = (if (g 0) ≤ x1 then some ((-1), a) else f_X12_firstConstant_12 g (f_X12_firstConstant_2 g n) fu a x1 0) := rfl
def f_X12_firstConstant (g : xG) (a : xA) : Option (Int64 × xA) := f_X12_firstConstant_2 g fu a 0
set_option maxRecDepth 100000 in
set_option maxHeartbeats 40000000 in
theorem c_X12_firstConstant (l : Launch) (E : xE) (g : xG) (a : xA) {res : Int64 × xA} (hf : f_X12_firstConstant g a = some res) : xM l E yX12_firstConstant cX12_firstConstant 3 (some .long) 6 147 [.ref (E.2.1 0)] (wM E g a) (xQl E res.1 (wM E g res.2)) := by
  unfold f_X12_firstConstant at hf
  refine xM_of (by decide) (Nat.le_of_ble_eq_true rfl) ?_
  intro p e s m below meth c A hx hb hr hml hts hown hlocks hA hD hP hK hN hS ls hl
  have hw : ∀ w ∈ BW, w.before _ s = true := fun w h => hts w (List.mem_cons_of_mem _ h)
  have C0 : xCtx E p m c cX12_firstConstant 3 s _ RX12 A yX12_firstConstant cX12_firstConstant 3 (some .long) := ⟨hx, hb, hml, hown, hts, hA, hK, hN⟩
  have hl : lv_has ls 3 [(0, .ref (E.2.1 0))] := hl
  have B12 : ∀ (K2 : xA → Int32 → Option (Int64 × xA)) (hK2 : ∀ (a : xA) (x1 : Int32) (H : Heap) (locs : List Loc) (ls : Array Slot), va_P E.1 vwCl (wM E g a) H → va_S A s.heap H locs → lv_has ls 3 [(0, .ref (E.2.1 0)), (1, .int x1)] → K2 a x1 = some res → W p l e ({ frames := 6, cells := 0, slots := 0, locals := 147 }) s m ([.ref (E.2.1 0)] : List Value).toArray below meth c H locs 0 0 (MQ below ((xQl E res.1 (wM E g res.2)) A) ([.ref (E.2.1 0)] : List Value).toArray s 0 0 A) (F0 m 2 ls [])) (n : Nat) (a : xA) (x1 : Int32) (x2 : Int32) (H : Heap) (locs : List Loc) (ls : Array Slot), va_P E.1 vwCl (wM E g a) H → va_S A s.heap H locs → lv_has ls 3 [(0, .ref (E.2.1 0)), (1, .int x1), (2, .int x2)] → f_X12_firstConstant_12 g K2 n a x1 x2 = some res → W p l e ({ frames := 6, cells := 0, slots := 0, locals := 147 }) s m ([.ref (E.2.1 0)] : List Value).toArray below meth c H locs 0 0 (MQ below ((xQl E res.1 (wM E g res.2)) A) ([.ref (E.2.1 0)] : List Value).toArray s 0 0 A) (F0 m 12 ls []) := by
    intro K2 hK2 n
    induction n with
    | zero => intro a x1 x2 H locs ls hP hS hl hf; exact absurd (show (none : Option (Int64 × xA)) = some res from hf) (by intro h; cases h)
    | succ n ih =>
      intro a x1 x2 H locs ls hP hS hl hf
      replace hf := (e_X12_firstConstant_12 g K2 n a x1 x2).symm.trans hf
      refine lv_iload_n hx hb dX12_firstConstant_12 rfl (lv_at hl 2 rfl) ?_
      refine lv_aload_n hx hb dX12_firstConstant_13 rfl (lv_at hl 0 rfl) ?_
      refine va_get (C := RX12) (T := TX12) (N := 22) hx hb hw bfX120 hown hK hP 0 (gm_0 E g a) rfl 0 (by decide) (hw _ bw755) (fun _ h9 => h9) rfl dX12_firstConstant_14 ?_
      refine lv_icmp_ge (tgt := 37) hx hb dX12_firstConstant_17 (by decide) (fun c2 => ?_) (fun c2 => ?_)
      · replace hf := (if_pos c2).symm.trans hf
        refine lv_aload_n hx hb dX12_firstConstant_37 rfl (lv_at hl 0 rfl) ?_
        refine lv_bipush (v := 6) hx hb dX12_firstConstant_38 (by decide) ?_
        refine lv_iconst (v := 1) hx hb dX12_firstConstant_40 (by decide) ?_
        obtain ⟨u3, e4, hf⟩ := bd_some hf
        refine xci (xRunV (rest := []) (As := [.int 6, .int 1]) (C := RX12) (k := 2) C0 (c_X12_keepsAll l E g a 6 1 e4) bw841 bw890 bw778 bw891 bw892 hd_X12_keepsAll ⟨Nat.le_of_ble_eq_true rfl, Nat.le_of_ble_eq_true rfl⟩ hP (wM_D hD) hS (va_recv hK hP (ci := 12) rfl (gm_0 E g a)) rfl hl.1 rfl (Nat.le_of_ble_eq_true rfl) dX12_firstConstant_41 ⟨Nat.zero_le _, Nat.zero_le _⟩) hS (fun H locs hP hS => ?_)
        refine lv_if_eq (tgt := 55) hx hb dX12_firstConstant_44 (by decide) (fun c5 => ?_) (fun c5 => ?_)
        · replace hf := (if_pos c5).symm.trans hf
          refine lv_iinc (v := (x1 + 1)) (lv' := [(1, .int (x1 + 1)), (0, .ref (E.2.1 0)), (2, .int x2)]) hx hb dX12_firstConstant_55 hl (k := 1) rfl rfl (by decide) rfl (fun ls hl => ?_)
          refine lv_goto (tgt := 2) hx hb dX12_firstConstant_58 (by decide) ?_
          exact hK2 u3.2 (x1 + 1) _ _ _ hP hS (lv_sub hl [1, 0] rfl) hf
        · replace hf := (if_neg c5).symm.trans hf
          refine lv_aload_n hx hb dX12_firstConstant_47 rfl (lv_at hl 0 rfl) ?_
          refine lv_bipush (v := 6) hx hb dX12_firstConstant_48 (by decide) ?_
          refine lv_iconst (v := 1) hx hb dX12_firstConstant_50 (by decide) ?_
          obtain ⟨u6, e7, hf⟩ := bd_some hf
          refine xcl (xRunV (rest := []) (As := [.int 6, .int 1]) (C := RX12) (k := 2) C0 (c_X12_codeOf l E g u3.2 6 1 e7) bw817 bw819 bw778 bw820 bw821 hd_X12_codeOf ⟨Nat.le_of_ble_eq_true rfl, Nat.le_of_ble_eq_true rfl⟩ hP (wM_D hD) hS (va_recv hK hP (ci := 12) rfl (gm_0 E g u3.2)) rfl hl.1 rfl (Nat.le_of_ble_eq_true rfl) dX12_firstConstant_51 ⟨Nat.zero_le _, Nat.zero_le _⟩) hS (fun H locs hP hS => ?_)
          exact xl_retS (fr := (fun r => r.1)) (fw := (fun r => wM E g r.2)) hx hb hr hlocks (Option.some.inj hf) hP hS dX12_firstConstant_54
      · replace hf := (if_neg c2).symm.trans hf
        refine lv_aload_n hx hb dX12_firstConstant_20 rfl (lv_at hl 0 rfl) ?_
        refine va_get (C := RX12) (T := TX12) (N := 22) hx hb hw bfX120 hown hK hP 0 (gm_0 E g a) rfl 6 (by decide) (hw _ bw759) (fun _ h9 => h9) rfl dX12_firstConstant_21 ?_
        refine lv_sipush (v := 162) hx hb dX12_firstConstant_24 (by decide) ?_
        refine lv_iload_n hx hb dX12_firstConstant_27 rfl (lv_at hl 2 rfl) ?_
        refine lv_iadd hx hb dX12_firstConstant_28 ?_
        refine lv_iload_n hx hb dX12_firstConstant_29 rfl (lv_at hl 1 rfl) ?_
        obtain ⟨k8, hf⟩ := ck_some hf
        refine va_iast hx hb hK hP (wM_D hD) hS 4 0 (gm_4 E g a) rfl (inB_in k8) dX12_firstConstant_30 (fun H locs hP _ hS => ?_)
        have hP := xP_eq (sm_a4 E g a (upd (a 4) ((162 + x2) : Int32).toNatClampNeg x1)) hP
        refine lv_iinc (v := (x2 + 1)) (lv' := [(2, .int (x2 + 1)), (0, .ref (E.2.1 0)), (1, .int x1)]) hx hb dX12_firstConstant_31 hl (k := 2) rfl rfl (by decide) rfl (fun ls hl => ?_)
        refine lv_goto (tgt := 12) hx hb dX12_firstConstant_34 (by decide) ?_
        exact ih (upA a 4 (upd (a 4) ((162 + x2) : Int32).toNatClampNeg x1)) x1 (x2 + 1) _ _ _ hP hS (lv_sub hl [1, 2, 0] rfl) hf
  have B2 : ∀ (n : Nat) (a : xA) (x1 : Int32) (H : Heap) (locs : List Loc) (ls : Array Slot), va_P E.1 vwCl (wM E g a) H → va_S A s.heap H locs → lv_has ls 3 [(0, .ref (E.2.1 0)), (1, .int x1)] → f_X12_firstConstant_2 g n a x1 = some res → W p l e ({ frames := 6, cells := 0, slots := 0, locals := 147 }) s m ([.ref (E.2.1 0)] : List Value).toArray below meth c H locs 0 0 (MQ below ((xQl E res.1 (wM E g res.2)) A) ([.ref (E.2.1 0)] : List Value).toArray s 0 0 A) (F0 m 2 ls []) := by
    intro n
    induction n with
    | zero => intro a x1 H locs ls hP hS hl hf; exact absurd (show (none : Option (Int64 × xA)) = some res from hf) (by intro h; cases h)
    | succ n ih =>
      intro a x1 H locs ls hP hS hl hf
      replace hf := (e_X12_firstConstant_2 g n a x1).symm.trans hf
      refine lv_iload_n hx hb dX12_firstConstant_2 rfl (lv_at hl 1 rfl) ?_
      refine lv_aload_n hx hb dX12_firstConstant_3 rfl (lv_at hl 0 rfl) ?_
      refine va_get (C := RX12) (T := TX12) (N := 22) hx hb hw bfX120 hown hK hP 0 (gm_0 E g a) rfl 0 (by decide) (hw _ bw755) (fun _ h9 => h9) rfl dX12_firstConstant_4 ?_
      refine lv_icmp_ge (tgt := 61) hx hb dX12_firstConstant_7 (by decide) (fun c1 => ?_) (fun c1 => ?_)
      · replace hf := (if_pos c1).symm.trans hf
        refine lv_ldc2 hx hb hown (hw _ bw886) dX12_firstConstant_61 ?_
        exact xl_retS (fr := (fun r => r.1)) (fw := (fun r => wM E g r.2)) hx hb hr hlocks (Option.some.inj hf) hP hS dX12_firstConstant_64
      · replace hf := (if_neg c1).symm.trans hf
        refine lv_iconst (v := 0) hx hb dX12_firstConstant_10 (by decide) ?_
        refine lv_istore_n (lv' := [(2, .int 0), (0, .ref (E.2.1 0)), (1, .int x1)]) hx hb dX12_firstConstant_11 rfl hl (by decide) rfl (fun ls hl => ?_)
        exact B12 (f_X12_firstConstant_2 g n) ih fu a x1 0 _ _ _ hP hS (lv_sub hl [1, 2, 0] rfl) hf
  refine lv_iconst (v := 0) hx hb dX12_firstConstant_0 (by decide) ?_
  refine lv_istore_n (lv' := [(1, .int 0), (0, .ref (E.2.1 0))]) hx hb dX12_firstConstant_1 rfl hl (by decide) rfl (fun ls hl => ?_)
  exact B2 fu a 0 _ _ _ hP hS (lv_sub hl [1, 0] rfl) hf
def f_X12_first_15 (g : xG) (a : xA) (x1 : Int32) (s0 : Int32) : Option (Int64 × xG × xA) := (if ((upd g 8 s0) 8) ≤ 0 then (if x1 = 0 then Option.bind (f_X12_firstConstant (upd g 8 s0) a) (fun u17 => some (u17.1, (upd g 8 s0), u17.2)) else (if 3 ≤ x1 then Option.bind (f_X12_lays (upd g 8 s0) a 6 3) (fun u5 => Option.bind (f_X12_keepsAll (upd g 8 s0) u5 6 3) (fun u7 => (if u7.1 = 0 then some ((-1), (upd g 8 s0), u7.2) else Option.bind (f_X12_codeOf (upd g 8 s0) u7.2 6 3) (fun u10 => some (u10, (upd g 8 s0), u7.2))))) else (if x1 = 1 then Option.bind (f_X12_firstOfTwo (upd g 8 s0) a) (fun u15 => some (u15.1, (upd g 8 s0), u15.2)) else Option.bind (f_X12_firstVote (upd g 8 s0) a) (fun u13 => some (u13.1, (upd g 8 s0), u13.2))))) else some (0, (upd g 8 s0), a))
def f_X12_first (g : xG) (a : xA) (v1 : Int32) : Option (Int64 × xG × xA) := (if (t_X12_in g a v1 0 3) = 0 then f_X12_first_15 g a v1 1 else f_X12_first_15 g a v1 0)
set_option maxRecDepth 100000 in
set_option maxHeartbeats 40000000 in
theorem c_X12_first (l : Launch) (E : xE) (g : xG) (a : xA) (v1 : Int32) {res : Int64 × xG × xA} (hf : f_X12_first g a v1 = some res) : xM l E yX12_first cX12_first 2 (some .long) 7 169 [.ref (E.2.1 0), .int v1] (wM E g a) (xQl E res.1 (wM E res.2.1 res.2.2)) := by
  unfold f_X12_first at hf
  refine xM_of (by decide) (Nat.le_of_ble_eq_true rfl) ?_
  intro p e s m below meth c A hx hb hr hml hts hown hlocks hA hD hP hK hN hS ls hl
  have hw : ∀ w ∈ BW, w.before _ s = true := fun w h => hts w (List.mem_cons_of_mem _ h)
  have C0 : xCtx E p m c cX12_first 2 s _ RX12 A yX12_first cX12_first 2 (some .long) := ⟨hx, hb, hml, hown, hts, hA, hK, hN⟩
  have hl : lv_has ls 2 [(0, .ref (E.2.1 0)), (1, .int v1)] := hl
  have B15 : ∀ (g : xG) (a : xA) (x1 : Int32) (s0 : Int32) (H : Heap) (locs : List Loc) (ls : Array Slot), va_P E.1 vwCl (wM E g a) H → va_S A s.heap H locs → lv_has ls 2 [(0, .ref (E.2.1 0)), (1, .int x1)] → f_X12_first_15 g a x1 s0 = some res → W p l e ({ frames := 7, cells := 0, slots := 0, locals := 169 }) s m ([.ref (E.2.1 0), .int v1] : List Value).toArray below meth c H locs 0 0 (MQ below ((xQl E res.1 (wM E res.2.1 res.2.2)) A) ([.ref (E.2.1 0), .int v1] : List Value).toArray s 0 0 A) (F0 m 15 ls [.int s0, .ref (E.2.1 0)]) := by
    intro g a x1 s0 H locs ls hP hS hl hf
    unfold f_X12_first_15 at hf
    refine va_put (v := .int s0) (ty := .int) (C := RX12) (T := TX12) (N := 22) hx hb hw bfX120 tyX12 tyX12_ok nmX12 hown hK hP (wM_D hD) hS 0 (gm_0 E g a) rfl 21 (by decide) (hw _ bw771) (fun _ h9 => h9) rfl (by decide +kernel) rfl rfl (Nat.le_of_ble_eq_true rfl) dX12_first_15 (fun H locs hP _ hS => ?_)
    have hP := xP_eq (sm_g8 E g a s0) hP
    refine lv_aload_n hx hb dX12_first_18 rfl (lv_at hl 0 rfl) ?_
    refine va_get (C := RX12) (T := TX12) (N := 22) hx hb hw bfX120 hown hK hP 0 (gm_0 E (upd g 8 s0) a) rfl 21 (by decide) (hw _ bw771) (fun _ h9 => h9) rfl dX12_first_19 ?_
    refine lv_if_le (tgt := 27) hx hb dX12_first_22 (by decide) (fun c2 => ?_) (fun c2 => ?_)
    · replace hf := (if_pos c2).symm.trans hf
      refine lv_iload_n hx hb dX12_first_27 rfl (lv_at hl 1 rfl) ?_
      refine lv_if_ne (tgt := 36) hx hb dX12_first_28 (by decide) (fun c3 => ?_) (fun c3 => ?_)
      · replace hf := (if_neg c3).symm.trans hf
        refine lv_iload_n hx hb dX12_first_36 rfl (lv_at hl 1 rfl) ?_
        refine lv_iconst (v := 3) hx hb dX12_first_37 (by decide) ?_
        refine lv_icmp_ge (tgt := 58) hx hb dX12_first_38 (by decide) (fun c4 => ?_) (fun c4 => ?_)
        · replace hf := (if_pos c4).symm.trans hf
          refine lv_aload_n hx hb dX12_first_58 rfl (lv_at hl 0 rfl) ?_
          refine lv_bipush (v := 6) hx hb dX12_first_59 (by decide) ?_
          refine lv_iconst (v := 3) hx hb dX12_first_61 (by decide) ?_
          obtain ⟨u5, e6, hf⟩ := bd_some hf
          refine xcv (xRunV (rest := []) (As := [.int 6, .int 3]) (C := RX12) (k := 2) C0 (c_X12_lays l E (upd g 8 s0) a 6 3 e6) bw804 bw809 bw778 bw810 bw811 hd_X12_lays ⟨Nat.le_of_ble_eq_true rfl, Nat.le_of_ble_eq_true rfl⟩ hP (wM_D hD) hS (va_recv hK hP (ci := 12) rfl (gm_0 E (upd g 8 s0) a)) rfl hl.1 rfl (Nat.le_of_ble_eq_true rfl) dX12_first_62 ⟨Nat.zero_le _, Nat.zero_le _⟩) hS (fun H locs hP hS => ?_)
          refine lv_aload_n hx hb dX12_first_65 rfl (lv_at hl 0 rfl) ?_
          refine lv_bipush (v := 6) hx hb dX12_first_66 (by decide) ?_
          refine lv_iconst (v := 3) hx hb dX12_first_68 (by decide) ?_
          obtain ⟨u7, e8, hf⟩ := bd_some hf
          refine xci (xRunV (rest := []) (As := [.int 6, .int 3]) (C := RX12) (k := 2) C0 (c_X12_keepsAll l E (upd g 8 s0) u5 6 3 e8) bw841 bw890 bw778 bw891 bw892 hd_X12_keepsAll ⟨Nat.le_of_ble_eq_true rfl, Nat.le_of_ble_eq_true rfl⟩ hP (wM_D hD) hS (va_recv hK hP (ci := 12) rfl (gm_0 E (upd g 8 s0) u5)) rfl hl.1 rfl (Nat.le_of_ble_eq_true rfl) dX12_first_69 ⟨Nat.zero_le _, Nat.zero_le _⟩) hS (fun H locs hP hS => ?_)
          refine lv_if_eq (tgt := 85) hx hb dX12_first_72 (by decide) (fun c9 => ?_) (fun c9 => ?_)
          · replace hf := (if_pos c9).symm.trans hf
            refine lv_ldc2 hx hb hown (hw _ bw886) dX12_first_85 ?_
            exact xl_retS (fr := (fun r => r.1)) (fw := (fun r => wM E r.2.1 r.2.2)) hx hb hr hlocks (Option.some.inj hf) hP hS dX12_first_88
          · replace hf := (if_neg c9).symm.trans hf
            refine lv_aload_n hx hb dX12_first_75 rfl (lv_at hl 0 rfl) ?_
            refine lv_bipush (v := 6) hx hb dX12_first_76 (by decide) ?_
            refine lv_iconst (v := 3) hx hb dX12_first_78 (by decide) ?_
            obtain ⟨u10, e11, hf⟩ := bd_some hf
            refine xcl (xRunV (rest := []) (As := [.int 6, .int 3]) (C := RX12) (k := 2) C0 (c_X12_codeOf l E (upd g 8 s0) u7.2 6 3 e11) bw817 bw819 bw778 bw820 bw821 hd_X12_codeOf ⟨Nat.le_of_ble_eq_true rfl, Nat.le_of_ble_eq_true rfl⟩ hP (wM_D hD) hS (va_recv hK hP (ci := 12) rfl (gm_0 E (upd g 8 s0) u7.2)) rfl hl.1 rfl (Nat.le_of_ble_eq_true rfl) dX12_first_79 ⟨Nat.zero_le _, Nat.zero_le _⟩) hS (fun H locs hP hS => ?_)
            refine lv_goto (tgt := 88) hx hb dX12_first_82 (by decide) ?_
            exact xl_retS (fr := (fun r => r.1)) (fw := (fun r => wM E r.2.1 r.2.2)) hx hb hr hlocks (Option.some.inj hf) hP hS dX12_first_88
        · replace hf := (if_neg c4).symm.trans hf
          refine lv_iload_n hx hb dX12_first_41 rfl (lv_at hl 1 rfl) ?_
          refine lv_iconst (v := 1) hx hb dX12_first_42 (by decide) ?_
          refine lv_icmp_ne (tgt := 53) hx hb dX12_first_43 (by decide) (fun c12 => ?_) (fun c12 => ?_)
          · replace hf := (if_neg c12).symm.trans hf
            refine lv_aload_n hx hb dX12_first_53 rfl (lv_at hl 0 rfl) ?_
            obtain ⟨u13, e14, hf⟩ := bd_some hf
            refine xcl (xRunV (rest := []) (As := []) (C := RX12) (k := 0) C0 (c_X12_firstVote l E (upd g 8 s0) a e14) bw898 bw906 bw778 bw907 bw908 hd_X12_firstVote ⟨Nat.le_of_ble_eq_true rfl, Nat.le_of_ble_eq_true rfl⟩ hP (wM_D hD) hS (va_recv hK hP (ci := 12) rfl (gm_0 E (upd g 8 s0) a)) rfl hl.1 rfl (Nat.le_of_ble_eq_true rfl) dX12_first_54 ⟨Nat.zero_le _, Nat.zero_le _⟩) hS (fun H locs hP hS => ?_)
            exact xl_retS (fr := (fun r => r.1)) (fw := (fun r => wM E r.2.1 r.2.2)) hx hb hr hlocks (Option.some.inj hf) hP hS dX12_first_57
          · replace hf := (if_pos c12).symm.trans hf
            refine lv_aload_n hx hb dX12_first_46 rfl (lv_at hl 0 rfl) ?_
            obtain ⟨u15, e16, hf⟩ := bd_some hf
            refine xcl (xRunV (rest := []) (As := []) (C := RX12) (k := 0) C0 (c_X12_firstOfTwo l E (upd g 8 s0) a e16) bw893 bw903 bw778 bw904 bw905 hd_X12_firstOfTwo ⟨Nat.le_of_ble_eq_true rfl, Nat.le_of_ble_eq_true rfl⟩ hP (wM_D hD) hS (va_recv hK hP (ci := 12) rfl (gm_0 E (upd g 8 s0) a)) rfl hl.1 rfl (Nat.le_of_ble_eq_true rfl) dX12_first_47 ⟨Nat.zero_le _, Nat.zero_le _⟩) hS (fun H locs hP hS => ?_)
            refine lv_goto (tgt := 57) hx hb dX12_first_50 (by decide) ?_
            exact xl_retS (fr := (fun r => r.1)) (fw := (fun r => wM E r.2.1 r.2.2)) hx hb hr hlocks (Option.some.inj hf) hP hS dX12_first_57
      · replace hf := (if_pos c3).symm.trans hf
        refine lv_aload_n hx hb dX12_first_31 rfl (lv_at hl 0 rfl) ?_
        obtain ⟨u17, e18, hf⟩ := bd_some hf
        refine xcl (xRunV (rest := []) (As := []) (C := RX12) (k := 0) C0 (c_X12_firstConstant l E (upd g 8 s0) a e18) bw899 bw900 bw778 bw901 bw902 hd_X12_firstConstant ⟨Nat.le_of_ble_eq_true rfl, Nat.le_of_ble_eq_true rfl⟩ hP (wM_D hD) hS (va_recv hK hP (ci := 12) rfl (gm_0 E (upd g 8 s0) a)) rfl hl.1 rfl (Nat.le_of_ble_eq_true rfl) dX12_first_32 ⟨Nat.zero_le _, Nat.zero_le _⟩) hS (fun H locs hP hS => ?_)
        exact xl_retS (fr := (fun r => r.1)) (fw := (fun r => wM E r.2.1 r.2.2)) hx hb hr hlocks (Option.some.inj hf) hP hS dX12_first_35
    · replace hf := (if_neg c2).symm.trans hf
      refine lv_lconst (v := 0) hx hb dX12_first_25 (by decide) ?_
      exact xl_retS (fr := (fun r => r.1)) (fw := (fun r => wM E r.2.1 r.2.2)) hx hb hr hlocks (Option.some.inj hf) hP hS dX12_first_26
  refine lv_aload_n hx hb dX12_first_0 rfl (lv_at hl 0 rfl) ?_
  refine lv_iload_n hx hb dX12_first_1 rfl (lv_at hl 1 rfl) ?_
  refine lv_iconst (v := 0) hx hb dX12_first_2 (by decide) ?_
  refine lv_iconst (v := 3) hx hb dX12_first_3 (by decide) ?_
  refine xci (xRunS (rest := [.ref (E.2.1 0)]) (As := [.int v1, .int 0, .int 3]) (k := 3) C0 (c_X12_in l E g a v1 0 3) bw772 bw785 bw778 bw786 hd_X12_in ⟨Nat.le_of_ble_eq_true rfl, Nat.le_of_ble_eq_true rfl⟩ hP (wM_D hD) hS rfl hl.1 rfl (Nat.le_of_ble_eq_true rfl) dX12_first_4 ⟨Nat.zero_le _, Nat.zero_le _⟩) hS (fun H locs hP hS => ?_)
  refine lv_if_eq (tgt := 14) hx hb dX12_first_7 (by decide) (fun c1 => ?_) (fun c1 => ?_)
  · replace hf := (if_pos c1).symm.trans hf
    refine lv_iconst (v := 1) hx hb dX12_first_14 (by decide) ?_
    exact B15 g a v1 1 _ _ _ hP hS (lv_sub hl [0, 1] rfl) hf
  · replace hf := (if_neg c1).symm.trans hf
    refine lv_iconst (v := 0) hx hb dX12_first_10 (by decide) ?_
    refine lv_goto (tgt := 15) hx hb dX12_first_11 (by decide) ?_
    exact B15 g a v1 0 _ _ _ hP hS (lv_sub hl [0, 1] rfl) hf
def f_X12_endsOf_49 (g : xG) (K10 : xA → Int32 → Int32 → Int32 → Int32 → Option (Int32 × xA)) : Nat → xA → Int32 → Int32 → Int32 → Int32 → Int32 → Int32 → Option (Int32 × xA)
  | 0, _, _, _, _, _, _, _ => none
  | n + 1, a, x1, x2, x3, x4, x5, x6 => (if (g 0) ≤ x6 then Option.bind (f_X12_count g a x5) (fun u11 => (if x3 ≤ u11 then K10 a x1 x2 x3 (x4 + 1) else Option.bind (f_X12_count g a x5) (fun u14 => K10 a x1 x2 u14 (x4 + 1)))) else ck (inB (162 + x6) 189) (f_X12_endsOf_49 g K10 n a x1 x2 x3 x4 (x5 ||| ((1 : Int32) <<< ((a 4 ((162 + x6) : Int32).toNatClampNeg) &&& 31))) (x6 + 1)))
theorem e_X12_endsOf_49 (g : xG) (K10 : xA → Int32 → Int32 → Int32 → Int32 → Option (Int32 × xA)) (n : Nat) (a : xA) (x1 : Int32) (x2 : Int32) (x3 : Int32) (x4 : Int32) (x5 : Int32) (x6 : Int32) : f_X12_endsOf_49 g K10 (n + 1) a x1 x2 x3 x4 x5 x6 = (if (g 0) ≤ x6 then Option.bind (f_X12_count g a x5) (fun u11 => (if x3 ≤ u11 then K10 a x1 x2 x3 (x4 + 1) else Option.bind (f_X12_count g a x5) (fun u14 => K10 a x1 x2 u14 (x4 + 1)))) else ck (inB (162 + x6) 189) (f_X12_endsOf_49 g K10 n a x1 x2 x3 x4 (x5 ||| ((1 : Int32) <<< ((a 4 ((162 + x6) : Int32).toNatClampNeg) &&& 31))) (x6 + 1))) := rfl
def f_X12_endsOf_10 (g : xG) : Nat → xA → Int32 → Int32 → Int32 → Int32 → Option (Int32 × xA)
  | 0, _, _, _, _, _ => none
  | n + 1, a, x1, x2, x3, x4 => Option.bind (f_X12_power g a (g 0)) (fun u1 => (if u1 ≤ x4 then (if x1 = 0 then some (x2, a) else some (x3, a)) else Option.bind (f_X12_triesCode g a x4 1) (fun u5 => Option.bind (f_X12_keepsAll g u5 6 1) (fun u7 => (if u7.1 = 0 then f_X12_endsOf_10 g n u7.2 x1 x2 x3 (x4 + 1) else f_X12_endsOf_49 g (f_X12_endsOf_10 g n) fu u7.2 x1 (x2 + 1) x3 x4 0 0)))))
theorem e_X12_endsOf_10 (g : xG) (n : Nat) (a : xA) (x1 : Int32) (x2 : Int32) (x3 : Int32) (x4 : Int32) : f_X12_endsOf_10 g (n + 1) a x1 x2 x3 x4 = Option.bind (f_X12_power g a (g 0)) (fun u1 => (if u1 ≤ x4 then (if x1 = 0 then some (x2, a) else some (x3, a)) else Option.bind (f_X12_triesCode g a x4 1) (fun u5 => Option.bind (f_X12_keepsAll g u5 6 1) (fun u7 => (if u7.1 = 0 then f_X12_endsOf_10 g n u7.2 x1 x2 x3 (x4 + 1) else f_X12_endsOf_49 g (f_X12_endsOf_10 g n) fu u7.2 x1 (x2 + 1) x3 x4 0 0))))) := rfl
def f_X12_endsOf (g : xG) (a : xA) (v1 : Int32) : Option (Int32 × xA) := f_X12_endsOf_10 g fu a v1 0 (g 0) 0
set_option maxRecDepth 100000 in
set_option maxHeartbeats 40000000 in
theorem c_X12_endsOf (l : Launch) (E : xE) (g : xG) (a : xA) (v1 : Int32) {res : Int32 × xA} (hf : f_X12_endsOf g a v1 = some res) : xM l E yX12_endsOf cX12_endsOf 7 (some .int) 6 147 [.ref (E.2.1 0), .int v1] (wM E g a) (xQi E res.1 (wM E g res.2)) := by
  unfold f_X12_endsOf at hf
  refine xM_of (by decide) (Nat.le_of_ble_eq_true rfl) ?_
  intro p e s m below meth c A hx hb hr hml hts hown hlocks hA hD hP hK hN hS ls hl
  have hw : ∀ w ∈ BW, w.before _ s = true := fun w h => hts w (List.mem_cons_of_mem _ h)
  have C0 : xCtx E p m c cX12_endsOf 7 s _ RX12 A yX12_endsOf cX12_endsOf 7 (some .int) := ⟨hx, hb, hml, hown, hts, hA, hK, hN⟩
  have hl : lv_has ls 7 [(0, .ref (E.2.1 0)), (1, .int v1)] := hl
  have B49 : ∀ (K10 : xA → Int32 → Int32 → Int32 → Int32 → Option (Int32 × xA)) (hK10 : ∀ (a : xA) (x1 : Int32) (x2 : Int32) (x3 : Int32) (x4 : Int32) (H : Heap) (locs : List Loc) (ls : Array Slot), va_P E.1 vwCl (wM E g a) H → va_S A s.heap H locs → lv_has ls 7 [(0, .ref (E.2.1 0)), (1, .int x1), (2, .int x2), (3, .int x3), (4, .int x4)] → K10 a x1 x2 x3 x4 = some res → W p l e ({ frames := 6, cells := 0, slots := 0, locals := 147 }) s m ([.ref (E.2.1 0), .int v1] : List Value).toArray below meth c H locs 0 0 (MQ below ((xQi E res.1 (wM E g res.2)) A) ([.ref (E.2.1 0), .int v1] : List Value).toArray s 0 0 A) (F0 m 10 ls [])) (n : Nat) (a : xA) (x1 : Int32) (x2 : Int32) (x3 : Int32) (x4 : Int32) (x5 : Int32) (x6 : Int32) (H : Heap) (locs : List Loc) (ls : Array Slot), va_P E.1 vwCl (wM E g a) H → va_S A s.heap H locs → lv_has ls 7 [(0, .ref (E.2.1 0)), (1, .int x1), (2, .int x2), (3, .int x3), (4, .int x4), (5, .int x5), (6, .int x6)] → f_X12_endsOf_49 g K10 n a x1 x2 x3 x4 x5 x6 = some res → W p l e ({ frames := 6, cells := 0, slots := 0, locals := 147 }) s m ([.ref (E.2.1 0), .int v1] : List Value).toArray below meth c H locs 0 0 (MQ below ((xQi E res.1 (wM E g res.2)) A) ([.ref (E.2.1 0), .int v1] : List Value).toArray s 0 0 A) (F0 m 49 ls []) := by
    intro K10 hK10 n
    induction n with
    | zero => intro a x1 x2 x3 x4 x5 x6 H locs ls hP hS hl hf; exact absurd (show (none : Option (Int32 × xA)) = some res from hf) (by intro h; cases h)
    | succ n ih =>
      intro a x1 x2 x3 x4 x5 x6 H locs ls hP hS hl hf
      replace hf := (e_X12_endsOf_49 g K10 n a x1 x2 x3 x4 x5 x6).symm.trans hf
      refine lv_iload hx hb dX12_endsOf_49 (lv_at hl 6 rfl) ?_
      refine lv_aload_n hx hb dX12_endsOf_51 rfl (lv_at hl 0 rfl) ?_
      refine va_get (C := RX12) (T := TX12) (N := 22) hx hb hw bfX120 hown hK hP 0 (gm_0 E g a) rfl 0 (by decide) (hw _ bw755) (fun _ h9 => h9) rfl dX12_endsOf_52 ?_
      refine lv_icmp_ge (tgt := 82) hx hb dX12_endsOf_55 (by decide) (fun c10 => ?_) (fun c10 => ?_)
      · replace hf := (if_pos c10).symm.trans hf
        refine lv_iload hx hb dX12_endsOf_82 (lv_at hl 5 rfl) ?_
        obtain ⟨u11, e12, hf⟩ := bd_some hf
        refine xci (xRunS (rest := []) (As := [.int x5]) (k := 1) C0 (c_X12_count l E g a x5 e12) bw780 bw796 bw778 bw797 hd_X12_count ⟨Nat.le_of_ble_eq_true rfl, Nat.le_of_ble_eq_true rfl⟩ hP (wM_D hD) hS rfl hl.1 rfl (Nat.le_of_ble_eq_true rfl) dX12_endsOf_84 ⟨Nat.zero_le _, Nat.zero_le _⟩) hS (fun H locs hP hS => ?_)
        refine lv_iload_n hx hb dX12_endsOf_87 rfl (lv_at hl 3 rfl) ?_
        refine lv_icmp_ge (tgt := 99) hx hb dX12_endsOf_88 (by decide) (fun c13 => ?_) (fun c13 => ?_)
        · replace hf := (if_pos c13).symm.trans hf
          refine lv_iload_n hx hb dX12_endsOf_99 rfl (lv_at hl 3 rfl) ?_
          refine lv_istore_n (lv' := [(3, .int x3), (0, .ref (E.2.1 0)), (1, .int x1), (2, .int x2), (4, .int x4), (5, .int x5), (6, .int x6)]) hx hb dX12_endsOf_100 rfl hl (by decide) rfl (fun ls hl => ?_)
          refine lv_iinc (v := (x4 + 1)) (lv' := [(4, .int (x4 + 1)), (3, .int x3), (0, .ref (E.2.1 0)), (1, .int x1), (2, .int x2), (5, .int x5), (6, .int x6)]) hx hb dX12_endsOf_101 hl (k := 4) rfl rfl (by decide) rfl (fun ls hl => ?_)
          refine lv_goto (tgt := 10) hx hb dX12_endsOf_104 (by decide) ?_
          exact hK10 a x1 x2 x3 (x4 + 1) _ _ _ hP hS (lv_sub hl [2, 3, 4, 1, 0] rfl) hf
        · replace hf := (if_neg c13).symm.trans hf
          refine lv_iload hx hb dX12_endsOf_91 (lv_at hl 5 rfl) ?_
          obtain ⟨u14, e15, hf⟩ := bd_some hf
          refine xci (xRunS (rest := []) (As := [.int x5]) (k := 1) C0 (c_X12_count l E g a x5 e15) bw780 bw796 bw778 bw797 hd_X12_count ⟨Nat.le_of_ble_eq_true rfl, Nat.le_of_ble_eq_true rfl⟩ hP (wM_D hD) hS rfl hl.1 rfl (Nat.le_of_ble_eq_true rfl) dX12_endsOf_93 ⟨Nat.zero_le _, Nat.zero_le _⟩) hS (fun H locs hP hS => ?_)
          refine lv_goto (tgt := 100) hx hb dX12_endsOf_96 (by decide) ?_
          refine lv_istore_n (lv' := [(3, .int u14), (0, .ref (E.2.1 0)), (1, .int x1), (2, .int x2), (4, .int x4), (5, .int x5), (6, .int x6)]) hx hb dX12_endsOf_100 rfl hl (by decide) rfl (fun ls hl => ?_)
          refine lv_iinc (v := (x4 + 1)) (lv' := [(4, .int (x4 + 1)), (3, .int u14), (0, .ref (E.2.1 0)), (1, .int x1), (2, .int x2), (5, .int x5), (6, .int x6)]) hx hb dX12_endsOf_101 hl (k := 4) rfl rfl (by decide) rfl (fun ls hl => ?_)
          refine lv_goto (tgt := 10) hx hb dX12_endsOf_104 (by decide) ?_
          exact hK10 a x1 x2 u14 (x4 + 1) _ _ _ hP hS (lv_sub hl [2, 3, 4, 1, 0] rfl) hf
      · replace hf := (if_neg c10).symm.trans hf
        refine lv_iload hx hb dX12_endsOf_58 (lv_at hl 5 rfl) ?_
        refine lv_iconst (v := 1) hx hb dX12_endsOf_60 (by decide) ?_
        refine lv_aload_n hx hb dX12_endsOf_61 rfl (lv_at hl 0 rfl) ?_
        refine va_get (C := RX12) (T := TX12) (N := 22) hx hb hw bfX120 hown hK hP 0 (gm_0 E g a) rfl 6 (by decide) (hw _ bw759) (fun _ h9 => h9) rfl dX12_endsOf_62 ?_
        refine lv_sipush (v := 162) hx hb dX12_endsOf_65 (by decide) ?_
        refine lv_iload hx hb dX12_endsOf_68 (lv_at hl 6 rfl) ?_
        refine lv_iadd hx hb dX12_endsOf_70 ?_
        obtain ⟨k16, hf⟩ := ck_some hf
        refine va_iald hx hb hK hP 4 0 (gm_4 E g a) rfl (inB_in k16) dX12_endsOf_71 ?_
        refine lv_ishl hx hb dX12_endsOf_72 ?_
        refine lv_ior hx hb dX12_endsOf_73 ?_
        refine lv_istore (lv' := [(5, .int (x5 ||| ((1 : Int32) <<< ((a 4 ((162 + x6) : Int32).toNatClampNeg) &&& 31)))), (0, .ref (E.2.1 0)), (1, .int x1), (2, .int x2), (3, .int x3), (4, .int x4), (6, .int x6)]) hx hb dX12_endsOf_74 hl (by decide) rfl (fun ls hl => ?_)
        refine lv_iinc (v := (x6 + 1)) (lv' := [(6, .int (x6 + 1)), (5, .int (x5 ||| ((1 : Int32) <<< ((a 4 ((162 + x6) : Int32).toNatClampNeg) &&& 31)))), (0, .ref (E.2.1 0)), (1, .int x1), (2, .int x2), (3, .int x3), (4, .int x4)]) hx hb dX12_endsOf_76 hl (k := 6) rfl rfl (by decide) rfl (fun ls hl => ?_)
        refine lv_goto (tgt := 49) hx hb dX12_endsOf_79 (by decide) ?_
        exact ih a x1 x2 x3 x4 (x5 ||| ((1 : Int32) <<< ((a 4 ((162 + x6) : Int32).toNatClampNeg) &&& 31))) (x6 + 1) _ _ _ hP hS (lv_sub hl [2, 3, 4, 5, 6, 1, 0] rfl) hf
  have B10 : ∀ (n : Nat) (a : xA) (x1 : Int32) (x2 : Int32) (x3 : Int32) (x4 : Int32) (H : Heap) (locs : List Loc) (ls : Array Slot), va_P E.1 vwCl (wM E g a) H → va_S A s.heap H locs → lv_has ls 7 [(0, .ref (E.2.1 0)), (1, .int x1), (2, .int x2), (3, .int x3), (4, .int x4)] → f_X12_endsOf_10 g n a x1 x2 x3 x4 = some res → W p l e ({ frames := 6, cells := 0, slots := 0, locals := 147 }) s m ([.ref (E.2.1 0), .int v1] : List Value).toArray below meth c H locs 0 0 (MQ below ((xQi E res.1 (wM E g res.2)) A) ([.ref (E.2.1 0), .int v1] : List Value).toArray s 0 0 A) (F0 m 10 ls []) := by
    intro n
    induction n with
    | zero => intro a x1 x2 x3 x4 H locs ls hP hS hl hf; exact absurd (show (none : Option (Int32 × xA)) = some res from hf) (by intro h; cases h)
    | succ n ih =>
      intro a x1 x2 x3 x4 H locs ls hP hS hl hf
      replace hf := (e_X12_endsOf_10 g n a x1 x2 x3 x4).symm.trans hf
      refine lv_iload hx hb dX12_endsOf_10 (lv_at hl 4 rfl) ?_
      refine lv_aload_n hx hb dX12_endsOf_12 rfl (lv_at hl 0 rfl) ?_
      refine lv_aload_n hx hb dX12_endsOf_13 rfl (lv_at hl 0 rfl) ?_
      refine va_get (C := RX12) (T := TX12) (N := 22) hx hb hw bfX120 hown hK hP 0 (gm_0 E g a) rfl 0 (by decide) (hw _ bw755) (fun _ h9 => h9) rfl dX12_endsOf_14 ?_
      obtain ⟨u1, e2, hf⟩ := bd_some hf
      refine xci (xRunV (rest := [.int x4]) (As := [.int (g 0)]) (C := RX12) (k := 1) C0 (c_X12_power l E g a (g 0) e2) bw773 bw775 bw778 bw776 bw777 hd_X12_power ⟨Nat.le_of_ble_eq_true rfl, Nat.le_of_ble_eq_true rfl⟩ hP (wM_D hD) hS (va_recv hK hP (ci := 12) rfl (gm_0 E g a)) rfl hl.1 rfl (Nat.le_of_ble_eq_true rfl) dX12_endsOf_17 ⟨Nat.zero_le _, Nat.zero_le _⟩) hS (fun H locs hP hS => ?_)
      refine lv_icmp_ge (tgt := 107) hx hb dX12_endsOf_20 (by decide) (fun c3 => ?_) (fun c3 => ?_)
      · replace hf := (if_pos c3).symm.trans hf
        refine lv_iload_n hx hb dX12_endsOf_107 rfl (lv_at hl 1 rfl) ?_
        refine lv_if_eq (tgt := 115) hx hb dX12_endsOf_108 (by decide) (fun c4 => ?_) (fun c4 => ?_)
        · replace hf := (if_pos c4).symm.trans hf
          refine lv_iload_n hx hb dX12_endsOf_115 rfl (lv_at hl 2 rfl) ?_
          exact xi_retS (fr := (fun r => r.1)) (fw := (fun r => wM E g r.2)) hx hb hr hlocks (Option.some.inj hf) hP hS dX12_endsOf_116
        · replace hf := (if_neg c4).symm.trans hf
          refine lv_iload_n hx hb dX12_endsOf_111 rfl (lv_at hl 3 rfl) ?_
          refine lv_goto (tgt := 116) hx hb dX12_endsOf_112 (by decide) ?_
          exact xi_retS (fr := (fun r => r.1)) (fw := (fun r => wM E g r.2)) hx hb hr hlocks (Option.some.inj hf) hP hS dX12_endsOf_116
      · replace hf := (if_neg c3).symm.trans hf
        refine lv_aload_n hx hb dX12_endsOf_23 rfl (lv_at hl 0 rfl) ?_
        refine lv_iload hx hb dX12_endsOf_24 (lv_at hl 4 rfl) ?_
        refine lv_iconst (v := 1) hx hb dX12_endsOf_26 (by decide) ?_
        obtain ⟨u5, e6, hf⟩ := bd_some hf
        refine xcv (xRunV (rest := []) (As := [.int x4, .int 1]) (C := RX12) (k := 2) C0 (c_X12_triesCode l E g a x4 1 e6) bw885 bw887 bw778 bw888 bw889 hd_X12_triesCode ⟨Nat.le_of_ble_eq_true rfl, Nat.le_of_ble_eq_true rfl⟩ hP (wM_D hD) hS (va_recv hK hP (ci := 12) rfl (gm_0 E g a)) rfl hl.1 rfl (Nat.le_of_ble_eq_true rfl) dX12_endsOf_27 ⟨Nat.zero_le _, Nat.zero_le _⟩) hS (fun H locs hP hS => ?_)
        refine lv_aload_n hx hb dX12_endsOf_30 rfl (lv_at hl 0 rfl) ?_
        refine lv_bipush (v := 6) hx hb dX12_endsOf_31 (by decide) ?_
        refine lv_iconst (v := 1) hx hb dX12_endsOf_33 (by decide) ?_
        obtain ⟨u7, e8, hf⟩ := bd_some hf
        refine xci (xRunV (rest := []) (As := [.int 6, .int 1]) (C := RX12) (k := 2) C0 (c_X12_keepsAll l E g u5 6 1 e8) bw841 bw890 bw778 bw891 bw892 hd_X12_keepsAll ⟨Nat.le_of_ble_eq_true rfl, Nat.le_of_ble_eq_true rfl⟩ hP (wM_D hD) hS (va_recv hK hP (ci := 12) rfl (gm_0 E g u5)) rfl hl.1 rfl (Nat.le_of_ble_eq_true rfl) dX12_endsOf_34 ⟨Nat.zero_le _, Nat.zero_le _⟩) hS (fun H locs hP hS => ?_)
        refine lv_if_eq (tgt := 101) hx hb dX12_endsOf_37 (by decide) (fun c9 => ?_) (fun c9 => ?_)
        · replace hf := (if_pos c9).symm.trans hf
          refine lv_iinc (v := (x4 + 1)) (lv' := [(4, .int (x4 + 1)), (0, .ref (E.2.1 0)), (1, .int x1), (2, .int x2), (3, .int x3)]) hx hb dX12_endsOf_101 hl (k := 4) rfl rfl (by decide) rfl (fun ls hl => ?_)
          refine lv_goto (tgt := 10) hx hb dX12_endsOf_104 (by decide) ?_
          exact ih u7.2 x1 x2 x3 (x4 + 1) _ _ _ hP hS (lv_sub hl [1, 2, 3, 4, 0] rfl) hf
        · replace hf := (if_neg c9).symm.trans hf
          refine lv_iinc (v := (x2 + 1)) (lv' := [(2, .int (x2 + 1)), (0, .ref (E.2.1 0)), (1, .int x1), (3, .int x3), (4, .int x4)]) hx hb dX12_endsOf_40 hl (k := 2) rfl rfl (by decide) rfl (fun ls hl => ?_)
          refine lv_iconst (v := 0) hx hb dX12_endsOf_43 (by decide) ?_
          refine lv_istore (lv' := [(5, .int 0), (2, .int (x2 + 1)), (0, .ref (E.2.1 0)), (1, .int x1), (3, .int x3), (4, .int x4)]) hx hb dX12_endsOf_44 hl (by decide) rfl (fun ls hl => ?_)
          refine lv_iconst (v := 0) hx hb dX12_endsOf_46 (by decide) ?_
          refine lv_istore (lv' := [(6, .int 0), (5, .int 0), (2, .int (x2 + 1)), (0, .ref (E.2.1 0)), (1, .int x1), (3, .int x3), (4, .int x4)]) hx hb dX12_endsOf_47 hl (by decide) rfl (fun ls hl => ?_)
          exact B49 (f_X12_endsOf_10 g n) ih fu u7.2 x1 (x2 + 1) x3 x4 0 0 _ _ _ hP hS (lv_sub hl [3, 4, 2, 5, 6, 1, 0] rfl) hf
  refine lv_iconst (v := 0) hx hb dX12_endsOf_0 (by decide) ?_
  refine lv_istore_n (lv' := [(2, .int 0), (0, .ref (E.2.1 0)), (1, .int v1)]) hx hb dX12_endsOf_1 rfl hl (by decide) rfl (fun ls hl => ?_)
  refine lv_aload_n hx hb dX12_endsOf_2 rfl (lv_at hl 1 rfl) ?_
  refine va_get (C := RX12) (T := TX12) (N := 22) hx hb hw bfX120 hown hK hP 0 (gm_0 E g a) rfl 0 (by decide) (hw _ bw755) (fun _ h9 => h9) rfl dX12_endsOf_3 ?_
  refine lv_istore_n (lv' := [(3, .int (g 0)), (2, .int 0), (0, .ref (E.2.1 0)), (1, .int v1)]) hx hb dX12_endsOf_6 rfl hl (by decide) rfl (fun ls hl => ?_)
  refine lv_iconst (v := 0) hx hb dX12_endsOf_7 (by decide) ?_
  refine lv_istore (lv' := [(4, .int 0), (3, .int (g 0)), (2, .int 0), (0, .ref (E.2.1 0)), (1, .int v1)]) hx hb dX12_endsOf_8 hl (by decide) rfl (fun ls hl => ?_)
  exact B10 fu a v1 0 (g 0) 0 _ _ _ hP hS (lv_sub hl [3, 4, 2, 1, 0] rfl) hf
def f_X12_ends (g : xG) (a : xA) : Option (Int32 × xG × xA) := Option.bind (f_X12_endsOf (upd g 8 0) a 0) (fun u1 => some (u1.1, (upd g 8 0), u1.2))
set_option maxRecDepth 100000 in
set_option maxHeartbeats 40000000 in
theorem c_X12_ends (l : Launch) (E : xE) (g : xG) (a : xA) {res : Int32 × xG × xA} (hf : f_X12_ends g a = some res) : xM l E yX12_ends cX12_ends 1 (some .int) 7 173 [.ref (E.2.1 0)] (wM E g a) (xQi E res.1 (wM E res.2.1 res.2.2)) := by
  unfold f_X12_ends at hf
  refine xM_of (by decide) (Nat.le_of_ble_eq_true rfl) ?_
  intro p e s m below meth c A hx hb hr hml hts hown hlocks hA hD hP hK hN hS ls hl
  have hw : ∀ w ∈ BW, w.before _ s = true := fun w h => hts w (List.mem_cons_of_mem _ h)
  have C0 : xCtx E p m c cX12_ends 1 s _ RX12 A yX12_ends cX12_ends 1 (some .int) := ⟨hx, hb, hml, hown, hts, hA, hK, hN⟩
  have hl : lv_has ls 1 [(0, .ref (E.2.1 0))] := hl
  refine lv_aload_n hx hb dX12_ends_0 rfl (lv_at hl 0 rfl) ?_
  refine lv_iconst (v := 0) hx hb dX12_ends_1 (by decide) ?_
  refine va_put (v := .int 0) (ty := .int) (C := RX12) (T := TX12) (N := 22) hx hb hw bfX120 tyX12 tyX12_ok nmX12 hown hK hP (wM_D hD) hS 0 (gm_0 E g a) rfl 21 (by decide) (hw _ bw771) (fun _ h9 => h9) rfl (by decide +kernel) rfl rfl (Nat.le_of_ble_eq_true rfl) dX12_ends_2 (fun H locs hP _ hS => ?_)
  have hP := xP_eq (sm_g8 E g a 0) hP
  refine lv_aload_n hx hb dX12_ends_5 rfl (lv_at hl 0 rfl) ?_
  refine lv_iconst (v := 0) hx hb dX12_ends_6 (by decide) ?_
  obtain ⟨u1, e2, hf⟩ := bd_some hf
  refine xci (xRunV (rest := []) (As := [.int 0]) (C := RX12) (k := 1) C0 (c_X12_endsOf l E (upd g 8 0) a 0 e2) bw910 bw911 bw778 bw912 bw913 hd_X12_endsOf ⟨Nat.le_of_ble_eq_true rfl, Nat.le_of_ble_eq_true rfl⟩ hP (wM_D hD) hS (va_recv hK hP (ci := 12) rfl (gm_0 E (upd g 8 0) a)) rfl hl.1 rfl (Nat.le_of_ble_eq_true rfl) dX12_ends_7 ⟨Nat.zero_le _, Nat.zero_le _⟩) hS (fun H locs hP hS => ?_)
  exact xi_retS (fr := (fun r => r.1)) (fw := (fun r => wM E r.2.1 r.2.2)) hx hb hr hlocks (Option.some.inj hf) hP hS dX12_ends_10
def f_X12_core (g : xG) (a : xA) : Option (Int32 × xG × xA) := Option.bind (f_X12_endsOf (upd g 8 0) a 1) (fun u1 => some (u1.1, (upd g 8 0), u1.2))
set_option maxRecDepth 100000 in
set_option maxHeartbeats 40000000 in
theorem c_X12_core (l : Launch) (E : xE) (g : xG) (a : xA) {res : Int32 × xG × xA} (hf : f_X12_core g a = some res) : xM l E yX12_core cX12_core 1 (some .int) 7 173 [.ref (E.2.1 0)] (wM E g a) (xQi E res.1 (wM E res.2.1 res.2.2)) := by
  unfold f_X12_core at hf
  refine xM_of (by decide) (Nat.le_of_ble_eq_true rfl) ?_
  intro p e s m below meth c A hx hb hr hml hts hown hlocks hA hD hP hK hN hS ls hl
  have hw : ∀ w ∈ BW, w.before _ s = true := fun w h => hts w (List.mem_cons_of_mem _ h)
  have C0 : xCtx E p m c cX12_core 1 s _ RX12 A yX12_core cX12_core 1 (some .int) := ⟨hx, hb, hml, hown, hts, hA, hK, hN⟩
  have hl : lv_has ls 1 [(0, .ref (E.2.1 0))] := hl
  refine lv_aload_n hx hb dX12_core_0 rfl (lv_at hl 0 rfl) ?_
  refine lv_iconst (v := 0) hx hb dX12_core_1 (by decide) ?_
  refine va_put (v := .int 0) (ty := .int) (C := RX12) (T := TX12) (N := 22) hx hb hw bfX120 tyX12 tyX12_ok nmX12 hown hK hP (wM_D hD) hS 0 (gm_0 E g a) rfl 21 (by decide) (hw _ bw771) (fun _ h9 => h9) rfl (by decide +kernel) rfl rfl (Nat.le_of_ble_eq_true rfl) dX12_core_2 (fun H locs hP _ hS => ?_)
  have hP := xP_eq (sm_g8 E g a 0) hP
  refine lv_aload_n hx hb dX12_core_5 rfl (lv_at hl 0 rfl) ?_
  refine lv_iconst (v := 1) hx hb dX12_core_6 (by decide) ?_
  obtain ⟨u1, e2, hf⟩ := bd_some hf
  refine xci (xRunV (rest := []) (As := [.int 1]) (C := RX12) (k := 1) C0 (c_X12_endsOf l E (upd g 8 0) a 1 e2) bw910 bw911 bw778 bw912 bw913 hd_X12_endsOf ⟨Nat.le_of_ble_eq_true rfl, Nat.le_of_ble_eq_true rfl⟩ hP (wM_D hD) hS (va_recv hK hP (ci := 12) rfl (gm_0 E (upd g 8 0) a)) rfl hl.1 rfl (Nat.le_of_ble_eq_true rfl) dX12_core_7 ⟨Nat.zero_le _, Nat.zero_le _⟩) hS (fun H locs hP hS => ?_)
  exact xi_retS (fr := (fun r => r.1)) (fw := (fun r => wM E r.2.1 r.2.2)) hx hb hr hlocks (Option.some.inj hf) hP hS dX12_core_10
def f_X12_around_188 (K113 : xG → xA → Int32 → Int32 → Int32 → Int32 → Int32 → Option (Int32 × xG × xA)) : Nat → xG → xA → Int32 → Int32 → Int32 → Int32 → Int32 → Int32 → Int32 → Option (Int32 × xG × xA)
  | 0, _, _, _, _, _, _, _, _, _ => none
  | n + 1, g, a, x1, x2, x3, x4, x5, x7, x8 => (if 9 ≤ x8 then ck (inB x1 8) (Option.bind (f_X12_applied g a 6 x2 (a 1 (x1 : Int32).toNatClampNeg)) (fun u28 => K113 g a x1 x2 x3 (x4 ||| ((1 : Int32) <<< (u28 &&& 31))) (x5 + 1))) else ck (inB x1 8) ((if (t_X12_isIn g a (a 2 (x1 : Int32).toNatClampNeg) x8) = 0 then f_X12_around_188 K113 n g a x1 x2 x3 x4 x5 x7 (x8 + 1) else ck (inB x7 3) (f_X12_around_188 K113 n g (upA a 11 (upd (a 11) (x7 : Int32).toNatClampNeg x8)) x1 x2 x3 x4 x5 (x7 + 1) (x8 + 1)))))
theorem e_X12_around_188 (K113 : xG → xA → Int32 → Int32 → Int32 → Int32 → Int32 → Option (Int32 × xG × xA)) (n : Nat) (g : xG) (a : xA) (x1 : Int32) (x2 : Int32) (x3 : Int32) (x4 : Int32) (x5 : Int32) (x7 : Int32) (x8 : Int32) : f_X12_around_188 K113 (n + 1) g a x1 x2 x3 x4 x5 x7 x8 = (if 9 ≤ x8 then ck (inB x1 8) (Option.bind (f_X12_applied g a 6 x2 (a 1 (x1 : Int32).toNatClampNeg)) (fun u28 => K113 g a x1 x2 x3 (x4 ||| ((1 : Int32) <<< (u28 &&& 31))) (x5 + 1))) else ck (inB x1 8) ((if (t_X12_isIn g a (a 2 (x1 : Int32).toNatClampNeg) x8) = 0 then f_X12_around_188 K113 n g a x1 x2 x3 x4 x5 x7 (x8 + 1) else ck (inB x7 3) (f_X12_around_188 K113 n g (upA a 11 (upd (a 11) (x7 : Int32).toNatClampNeg x8)) x1 x2 x3 x4 x5 (x7 + 1) (x8 + 1))))) := rfl
def f_X12_around_177 (K113 : xG → xA → Int32 → Int32 → Int32 → Int32 → Int32 → Option (Int32 × xG × xA)) (g : xG) (a : xA) (x1 : Int32) (x2 : Int32) (x3 : Int32) (x4 : Int32) (x5 : Int32) (x6 : Int32) : Option (Int32 × xG × xA) := (if x6 = 0 then K113 g a x1 x2 x3 x4 (x5 + 1) else f_X12_around_188 K113 fu g a x1 x2 x3 x4 x5 0 0)
def f_X12_around_132 (K113 : xG → xA → Int32 → Int32 → Int32 → Int32 → Int32 → Option (Int32 × xG × xA)) : Nat → xG → xA → Int32 → Int32 → Int32 → Int32 → Int32 → Int32 → Int32 → Option (Int32 × xG × xA)
  | 0, _, _, _, _, _, _, _, _, _ => none
  | n + 1, g, a, x1, x2, x3, x4, x5, x6, x7 => (if (g 1) ≤ x7 then f_X12_around_177 K113 g a x1 x2 x3 x4 x5 x6 else (if x6 = 0 then f_X12_around_177 K113 g a x1 x2 x3 x4 x5 x6 else (if x7 = x1 then f_X12_around_132 K113 n g a x1 x2 x3 x4 x5 1 (x7 + 1) else Option.bind (f_X12_doesKeep g a 6 x2 x7) (fun u22 => (if u22.1 = 0 then f_X12_around_132 K113 n g u22.2 x1 x2 x3 x4 x5 0 (x7 + 1) else f_X12_around_132 K113 n g u22.2 x1 x2 x3 x4 x5 1 (x7 + 1))))))
theorem e_X12_around_132 (K113 : xG → xA → Int32 → Int32 → Int32 → Int32 → Int32 → Option (Int32 × xG × xA)) (n : Nat) (g : xG) (a : xA) (x1 : Int32) (x2 : Int32) (x3 : Int32) (x4 : Int32) (x5 : Int32) (x6 : Int32) (x7 : Int32) : f_X12_around_132 K113 (n + 1) g a x1 x2 x3 x4 x5 x6 x7 = (if (g 1) ≤ x7 then f_X12_around_177 K113 g a x1 x2 x3 x4 x5 x6 else (if x6 = 0 then f_X12_around_177 K113 g a x1 x2 x3 x4 x5 x6 else (if x7 = x1 then f_X12_around_132 K113 n g a x1 x2 x3 x4 x5 1 (x7 + 1) else Option.bind (f_X12_doesKeep g a 6 x2 x7) (fun u22 => (if u22.1 = 0 then f_X12_around_132 K113 n g u22.2 x1 x2 x3 x4 x5 0 (x7 + 1) else f_X12_around_132 K113 n g u22.2 x1 x2 x3 x4 x5 1 (x7 + 1)))))) := rfl
def f_X12_around_113 : Nat → xG → xA → Int32 → Int32 → Int32 → Int32 → Int32 → Option (Int32 × xG × xA)
  | 0, _, _, _, _, _, _, _ => none
  | n + 1, g, a, x1, x2, x3, x4, x5 => (if x3 ≤ x5 then some (x4, g, a) else Option.bind (f_X12_triesCode g a x5 x2) (fun u17 => f_X12_around_132 (f_X12_around_113 n) fu g u17 x1 x2 x3 x4 x5 1 0))
theorem e_X12_around_113 (n : Nat) (g : xG) (a : xA) (x1 : Int32) (x2 : Int32) (x3 : Int32) (x4 : Int32) (x5 : Int32) : f_X12_around_113 (n + 1) g a x1 x2 x3 x4 x5 = (if x3 ≤ x5 then some (x4, g, a) else Option.bind (f_X12_triesCode g a x5 x2) (fun u17 => f_X12_around_132 (f_X12_around_113 n) fu g u17 x1 x2 x3 x4 x5 1 0)) := rfl
def f_X12_around_59 (g : xG) (a : xA) (x1 : Int32) (x2 : Int32) (s0 : Int32) : Option (Int32 × xG × xA) := (if 0 < ((upd g 8 s0) 8) then some (0, (upd g 8 s0), a) else (if x2 = 0 then some (0, (upd g 8 s0), a) else (if ((upd g 8 s0) 0) = 2 then Option.bind (f_X12_power (upd g 8 s0) a x2) (fun u14 => f_X12_around_113 fu (upd g 8 s0) a x1 x2 ((1 : Int32) <<< (u14 &&& 31)) 0 0) else (if x2 = 1 then f_X12_around_113 fu (upd g 8 s0) a x1 x2 27 0 0 else f_X12_around_113 fu (upd g 8 s0) a x1 x2 19683 0 0))))
def f_X12_around_51 (g : xG) (a : xA) (x1 : Int32) (x2 : Int32) (s0 : Int32) (s1 : Int32) : Option (Int32 × xG × xA) := (if s1 ≤ s0 then f_X12_around_59 g a x1 x2 0 else f_X12_around_59 g a x1 x2 2)
def f_X12_around_14 (g : xG) (a : xA) (x1 : Int32) (s0 : Int32) : Option (Int32 × xG × xA) := (if ((upd g 8 s0) 8) ≤ 0 then ck (inB x1 8) (Option.bind (f_X12_count (upd g 8 s0) a (a 2 (x1 : Int32).toNatClampNeg)) (fun u6 => (if ((upd g 8 s0) 0) = 2 then f_X12_around_51 (upd g 8 s0) a x1 u6 3 u6 else f_X12_around_51 (upd g 8 s0) a x1 u6 2 u6))) else some (0, (upd g 8 s0), a))
def f_X12_around (g : xG) (a : xA) (v1 : Int32) : Option (Int32 × xG × xA) := Option.bind (f_X12_isRelation g a v1) (fun u1 => (if u1 = 0 then f_X12_around_14 g a v1 1 else f_X12_around_14 g a v1 0))
set_option maxRecDepth 100000 in
set_option maxHeartbeats 40000000 in
theorem c_X12_around (l : Launch) (E : xE) (g : xG) (a : xA) (v1 : Int32) {res : Int32 × xG × xA} (hf : f_X12_around g a v1 = some res) : xM l E yX12_around cX12_around 9 (some .int) 5 123 [.ref (E.2.1 0), .int v1] (wM E g a) (xQi E res.1 (wM E res.2.1 res.2.2)) := by
  unfold f_X12_around at hf
  refine xM_of (by decide) (Nat.le_of_ble_eq_true rfl) ?_
  intro p e s m below meth c A hx hb hr hml hts hown hlocks hA hD hP hK hN hS ls hl
  have hw : ∀ w ∈ BW, w.before _ s = true := fun w h => hts w (List.mem_cons_of_mem _ h)
  have C0 : xCtx E p m c cX12_around 9 s _ RX12 A yX12_around cX12_around 9 (some .int) := ⟨hx, hb, hml, hown, hts, hA, hK, hN⟩
  have hl : lv_has ls 9 [(0, .ref (E.2.1 0)), (1, .int v1)] := hl
  have B188 : ∀ (K113 : xG → xA → Int32 → Int32 → Int32 → Int32 → Int32 → Option (Int32 × xG × xA)) (hK113 : ∀ (g : xG) (a : xA) (x1 : Int32) (x2 : Int32) (x3 : Int32) (x4 : Int32) (x5 : Int32) (H : Heap) (locs : List Loc) (ls : Array Slot), va_P E.1 vwCl (wM E g a) H → va_S A s.heap H locs → lv_has ls 9 [(0, .ref (E.2.1 0)), (1, .int x1), (2, .int x2), (3, .int x3), (4, .int x4), (5, .int x5)] → K113 g a x1 x2 x3 x4 x5 = some res → W p l e ({ frames := 5, cells := 0, slots := 0, locals := 123 }) s m ([.ref (E.2.1 0), .int v1] : List Value).toArray below meth c H locs 0 0 (MQ below ((xQi E res.1 (wM E res.2.1 res.2.2)) A) ([.ref (E.2.1 0), .int v1] : List Value).toArray s 0 0 A) (F0 m 113 ls [])) (n : Nat) (g : xG) (a : xA) (x1 : Int32) (x2 : Int32) (x3 : Int32) (x4 : Int32) (x5 : Int32) (x7 : Int32) (x8 : Int32) (H : Heap) (locs : List Loc) (ls : Array Slot), va_P E.1 vwCl (wM E g a) H → va_S A s.heap H locs → lv_has ls 9 [(0, .ref (E.2.1 0)), (1, .int x1), (2, .int x2), (3, .int x3), (4, .int x4), (5, .int x5), (7, .int x7), (8, .int x8)] → f_X12_around_188 K113 n g a x1 x2 x3 x4 x5 x7 x8 = some res → W p l e ({ frames := 5, cells := 0, slots := 0, locals := 123 }) s m ([.ref (E.2.1 0), .int v1] : List Value).toArray below meth c H locs 0 0 (MQ below ((xQi E res.1 (wM E res.2.1 res.2.2)) A) ([.ref (E.2.1 0), .int v1] : List Value).toArray s 0 0 A) (F0 m 188 ls []) := by
    intro K113 hK113 n
    induction n with
    | zero => intro g a x1 x2 x3 x4 x5 x7 x8 H locs ls hP hS hl hf; exact absurd (show (none : Option (Int32 × xG × xA)) = some res from hf) (by intro h; cases h)
    | succ n ih =>
      intro g a x1 x2 x3 x4 x5 x7 x8 H locs ls hP hS hl hf
      replace hf := (e_X12_around_188 K113 n g a x1 x2 x3 x4 x5 x7 x8).symm.trans hf
      refine lv_iload hx hb dX12_around_188 (lv_at hl 7 rfl) ?_
      refine lv_bipush (v := 9) hx hb dX12_around_190 (by decide) ?_
      refine lv_icmp_ge (tgt := 227) hx hb dX12_around_192 (by decide) (fun c26 => ?_) (fun c26 => ?_)
      · replace hf := (if_pos c26).symm.trans hf
        refine lv_iload hx hb dX12_around_227 (lv_at hl 4 rfl) ?_
        refine lv_iconst (v := 1) hx hb dX12_around_229 (by decide) ?_
        refine lv_aload_n hx hb dX12_around_230 rfl (lv_at hl 0 rfl) ?_
        refine lv_bipush (v := 6) hx hb dX12_around_231 (by decide) ?_
        refine lv_iload_n hx hb dX12_around_233 rfl (lv_at hl 2 rfl) ?_
        refine lv_aload_n hx hb dX12_around_234 rfl (lv_at hl 0 rfl) ?_
        refine va_get (C := RX12) (T := TX12) (N := 22) hx hb hw bfX120 hown hK hP 0 (gm_0 E g a) rfl 2 (by decide) (hw _ bw756) (fun _ h9 => h9) rfl dX12_around_235 ?_
        refine lv_iload_n hx hb dX12_around_238 rfl (lv_at hl 1 rfl) ?_
        obtain ⟨k27, hf⟩ := ck_some hf
        refine va_iald hx hb hK hP 1 0 (gm_1 E g a) rfl (inB_in k27) dX12_around_239 ?_
        obtain ⟨u28, e29, hf⟩ := bd_some hf
        refine xci (xRunV (rest := [.int 1, .int x4]) (As := [.int 6, .int x2, .int (a 1 (x1 : Int32).toNatClampNeg)]) (C := RX12) (k := 3) C0 (c_X12_applied l E g a 6 x2 (a 1 (x1 : Int32).toNatClampNeg) e29) bw822 bw831 bw778 bw832 bw833 hd_X12_applied ⟨Nat.le_of_ble_eq_true rfl, Nat.le_of_ble_eq_true rfl⟩ hP (wM_D hD) hS (va_recv hK hP (ci := 12) rfl (gm_0 E g a)) rfl hl.1 rfl (Nat.le_of_ble_eq_true rfl) dX12_around_240 ⟨Nat.zero_le _, Nat.zero_le _⟩) hS (fun H locs hP hS => ?_)
        refine lv_ishl hx hb dX12_around_243 ?_
        refine lv_ior hx hb dX12_around_244 ?_
        refine lv_istore (lv' := [(4, .int (x4 ||| ((1 : Int32) <<< (u28 &&& 31)))), (0, .ref (E.2.1 0)), (1, .int x1), (2, .int x2), (3, .int x3), (5, .int x5), (7, .int x7), (8, .int x8)]) hx hb dX12_around_245 hl (by decide) rfl (fun ls hl => ?_)
        refine lv_iinc (v := (x5 + 1)) (lv' := [(5, .int (x5 + 1)), (4, .int (x4 ||| ((1 : Int32) <<< (u28 &&& 31)))), (0, .ref (E.2.1 0)), (1, .int x1), (2, .int x2), (3, .int x3), (7, .int x7), (8, .int x8)]) hx hb dX12_around_247 hl (k := 5) rfl rfl (by decide) rfl (fun ls hl => ?_)
        refine lv_goto (tgt := 113) hx hb dX12_around_250 (by decide) ?_
        exact hK113 g a x1 x2 x3 (x4 ||| ((1 : Int32) <<< (u28 &&& 31))) (x5 + 1) _ _ _ hP hS (lv_sub hl [2, 3, 4, 5, 1, 0] rfl) hf
      · replace hf := (if_neg c26).symm.trans hf
        refine lv_aload_n hx hb dX12_around_195 rfl (lv_at hl 0 rfl) ?_
        refine va_get (C := RX12) (T := TX12) (N := 22) hx hb hw bfX120 hown hK hP 0 (gm_0 E g a) rfl 3 (by decide) (hw _ bw757) (fun _ h9 => h9) rfl dX12_around_196 ?_
        refine lv_iload_n hx hb dX12_around_199 rfl (lv_at hl 1 rfl) ?_
        obtain ⟨k30, hf⟩ := ck_some hf
        refine va_iald hx hb hK hP 2 0 (gm_2 E g a) rfl (inB_in k30) dX12_around_200 ?_
        refine lv_iload hx hb dX12_around_201 (lv_at hl 7 rfl) ?_
        refine xci (xRunS (rest := []) (As := [.int (a 2 (x1 : Int32).toNatClampNeg), .int x8]) (k := 2) C0 (c_X12_isIn l E g a (a 2 (x1 : Int32).toNatClampNeg) x8) bw779 bw793 bw778 bw794 hd_X12_isIn ⟨Nat.le_of_ble_eq_true rfl, Nat.le_of_ble_eq_true rfl⟩ hP (wM_D hD) hS rfl hl.1 rfl (Nat.le_of_ble_eq_true rfl) dX12_around_203 ⟨Nat.zero_le _, Nat.zero_le _⟩) hS (fun H locs hP hS => ?_)
        refine lv_if_eq (tgt := 221) hx hb dX12_around_206 (by decide) (fun c31 => ?_) (fun c31 => ?_)
        · replace hf := (if_pos c31).symm.trans hf
          refine lv_iinc (v := (x8 + 1)) (lv' := [(8, .int (x8 + 1)), (0, .ref (E.2.1 0)), (1, .int x1), (2, .int x2), (3, .int x3), (4, .int x4), (5, .int x5), (7, .int x7)]) hx hb dX12_around_221 hl (k := 7) rfl rfl (by decide) rfl (fun ls hl => ?_)
          refine lv_goto (tgt := 188) hx hb dX12_around_224 (by decide) ?_
          exact ih g a x1 x2 x3 x4 x5 x7 (x8 + 1) _ _ _ hP hS (lv_sub hl [1, 2, 3, 4, 5, 6, 7, 0] rfl) hf
        · replace hf := (if_neg c31).symm.trans hf
          refine lv_aload_n hx hb dX12_around_209 rfl (lv_at hl 0 rfl) ?_
          refine va_get (C := RX12) (T := TX12) (N := 22) hx hb hw bfX120 hown hK hP 0 (gm_0 E g a) rfl 18 (by decide) (hw _ bw767) (fun _ h9 => h9) rfl dX12_around_210 ?_
          refine lv_iload hx hb dX12_around_213 (lv_at hl 6 rfl) ?_
          refine lv_iload hx hb dX12_around_215 (lv_at hl 7 rfl) ?_
          obtain ⟨k32, hf⟩ := ck_some hf
          refine va_iast hx hb hK hP (wM_D hD) hS 11 0 (gm_11 E g a) rfl (inB_in k32) dX12_around_217 (fun H locs hP _ hS => ?_)
          have hP := xP_eq (sm_a11 E g a (upd (a 11) (x7 : Int32).toNatClampNeg x8)) hP
          refine lv_iinc (v := (x7 + 1)) (lv' := [(7, .int (x7 + 1)), (0, .ref (E.2.1 0)), (1, .int x1), (2, .int x2), (3, .int x3), (4, .int x4), (5, .int x5), (8, .int x8)]) hx hb dX12_around_218 hl (k := 6) rfl rfl (by decide) rfl (fun ls hl => ?_)
          refine lv_iinc (v := (x8 + 1)) (lv' := [(8, .int (x8 + 1)), (7, .int (x7 + 1)), (0, .ref (E.2.1 0)), (1, .int x1), (2, .int x2), (3, .int x3), (4, .int x4), (5, .int x5)]) hx hb dX12_around_221 hl (k := 7) rfl rfl (by decide) rfl (fun ls hl => ?_)
          refine lv_goto (tgt := 188) hx hb dX12_around_224 (by decide) ?_
          exact ih g (upA a 11 (upd (a 11) (x7 : Int32).toNatClampNeg x8)) x1 x2 x3 x4 x5 (x7 + 1) (x8 + 1) _ _ _ hP hS (lv_sub hl [2, 3, 4, 5, 6, 7, 1, 0] rfl) hf
  have B177 : ∀ (K113 : xG → xA → Int32 → Int32 → Int32 → Int32 → Int32 → Option (Int32 × xG × xA)) (hK113 : ∀ (g : xG) (a : xA) (x1 : Int32) (x2 : Int32) (x3 : Int32) (x4 : Int32) (x5 : Int32) (H : Heap) (locs : List Loc) (ls : Array Slot), va_P E.1 vwCl (wM E g a) H → va_S A s.heap H locs → lv_has ls 9 [(0, .ref (E.2.1 0)), (1, .int x1), (2, .int x2), (3, .int x3), (4, .int x4), (5, .int x5)] → K113 g a x1 x2 x3 x4 x5 = some res → W p l e ({ frames := 5, cells := 0, slots := 0, locals := 123 }) s m ([.ref (E.2.1 0), .int v1] : List Value).toArray below meth c H locs 0 0 (MQ below ((xQi E res.1 (wM E res.2.1 res.2.2)) A) ([.ref (E.2.1 0), .int v1] : List Value).toArray s 0 0 A) (F0 m 113 ls [])) (g : xG) (a : xA) (x1 : Int32) (x2 : Int32) (x3 : Int32) (x4 : Int32) (x5 : Int32) (x6 : Int32) (H : Heap) (locs : List Loc) (ls : Array Slot), va_P E.1 vwCl (wM E g a) H → va_S A s.heap H locs → lv_has ls 9 [(0, .ref (E.2.1 0)), (1, .int x1), (2, .int x2), (3, .int x3), (4, .int x4), (5, .int x5), (6, .int x6)] → f_X12_around_177 K113 g a x1 x2 x3 x4 x5 x6 = some res → W p l e ({ frames := 5, cells := 0, slots := 0, locals := 123 }) s m ([.ref (E.2.1 0), .int v1] : List Value).toArray below meth c H locs 0 0 (MQ below ((xQi E res.1 (wM E res.2.1 res.2.2)) A) ([.ref (E.2.1 0), .int v1] : List Value).toArray s 0 0 A) (F0 m 177 ls []) := by
    intro K113 hK113 g a x1 x2 x3 x4 x5 x6 H locs ls hP hS hl hf
    unfold f_X12_around_177 at hf
    refine lv_iload hx hb dX12_around_177 (lv_at hl 6 rfl) ?_
    refine lv_if_eq (tgt := 247) hx hb dX12_around_179 (by decide) (fun c25 => ?_) (fun c25 => ?_)
    · replace hf := (if_pos c25).symm.trans hf
      refine lv_iinc (v := (x5 + 1)) (lv' := [(5, .int (x5 + 1)), (0, .ref (E.2.1 0)), (1, .int x1), (2, .int x2), (3, .int x3), (4, .int x4), (6, .int x6)]) hx hb dX12_around_247 hl (k := 5) rfl rfl (by decide) rfl (fun ls hl => ?_)
      refine lv_goto (tgt := 113) hx hb dX12_around_250 (by decide) ?_
      exact hK113 g a x1 x2 x3 x4 (x5 + 1) _ _ _ hP hS (lv_sub hl [1, 2, 3, 4, 5, 0] rfl) hf
    · replace hf := (if_neg c25).symm.trans hf
      refine lv_iconst (v := 0) hx hb dX12_around_182 (by decide) ?_
      refine lv_istore (lv' := [(7, .int 0), (0, .ref (E.2.1 0)), (1, .int x1), (2, .int x2), (3, .int x3), (4, .int x4), (5, .int x5), (6, .int x6)]) hx hb dX12_around_183 hl (by decide) rfl (fun ls hl => ?_)
      refine lv_iconst (v := 0) hx hb dX12_around_185 (by decide) ?_
      refine lv_istore (lv' := [(8, .int 0), (7, .int 0), (0, .ref (E.2.1 0)), (1, .int x1), (2, .int x2), (3, .int x3), (4, .int x4), (5, .int x5), (6, .int x6)]) hx hb dX12_around_186 hl (by decide) rfl (fun ls hl => ?_)
      exact B188 K113 hK113 fu g a x1 x2 x3 x4 x5 0 0 _ _ _ hP hS (lv_sub hl [2, 3, 4, 5, 6, 7, 1, 0] rfl) hf
  have B132 : ∀ (K113 : xG → xA → Int32 → Int32 → Int32 → Int32 → Int32 → Option (Int32 × xG × xA)) (hK113 : ∀ (g : xG) (a : xA) (x1 : Int32) (x2 : Int32) (x3 : Int32) (x4 : Int32) (x5 : Int32) (H : Heap) (locs : List Loc) (ls : Array Slot), va_P E.1 vwCl (wM E g a) H → va_S A s.heap H locs → lv_has ls 9 [(0, .ref (E.2.1 0)), (1, .int x1), (2, .int x2), (3, .int x3), (4, .int x4), (5, .int x5)] → K113 g a x1 x2 x3 x4 x5 = some res → W p l e ({ frames := 5, cells := 0, slots := 0, locals := 123 }) s m ([.ref (E.2.1 0), .int v1] : List Value).toArray below meth c H locs 0 0 (MQ below ((xQi E res.1 (wM E res.2.1 res.2.2)) A) ([.ref (E.2.1 0), .int v1] : List Value).toArray s 0 0 A) (F0 m 113 ls [])) (n : Nat) (g : xG) (a : xA) (x1 : Int32) (x2 : Int32) (x3 : Int32) (x4 : Int32) (x5 : Int32) (x6 : Int32) (x7 : Int32) (H : Heap) (locs : List Loc) (ls : Array Slot), va_P E.1 vwCl (wM E g a) H → va_S A s.heap H locs → lv_has ls 9 [(0, .ref (E.2.1 0)), (1, .int x1), (2, .int x2), (3, .int x3), (4, .int x4), (5, .int x5), (6, .int x6), (7, .int x7)] → f_X12_around_132 K113 n g a x1 x2 x3 x4 x5 x6 x7 = some res → W p l e ({ frames := 5, cells := 0, slots := 0, locals := 123 }) s m ([.ref (E.2.1 0), .int v1] : List Value).toArray below meth c H locs 0 0 (MQ below ((xQi E res.1 (wM E res.2.1 res.2.2)) A) ([.ref (E.2.1 0), .int v1] : List Value).toArray s 0 0 A) (F0 m 132 ls []) := by
    intro K113 hK113 n
    induction n with
    | zero => intro g a x1 x2 x3 x4 x5 x6 x7 H locs ls hP hS hl hf; exact absurd (show (none : Option (Int32 × xG × xA)) = some res from hf) (by intro h; cases h)
    | succ n ih =>
      intro g a x1 x2 x3 x4 x5 x6 x7 H locs ls hP hS hl hf
      replace hf := (e_X12_around_132 K113 n g a x1 x2 x3 x4 x5 x6 x7).symm.trans hf
      refine lv_iload hx hb dX12_around_132 (lv_at hl 7 rfl) ?_
      refine lv_aload_n hx hb dX12_around_134 rfl (lv_at hl 0 rfl) ?_
      refine va_get (C := RX12) (T := TX12) (N := 22) hx hb hw bfX120 hown hK hP 0 (gm_0 E g a) rfl 1 (by decide) (hw _ bw782) (fun _ h9 => h9) rfl dX12_around_135 ?_
      refine lv_icmp_ge (tgt := 177) hx hb dX12_around_138 (by decide) (fun c19 => ?_) (fun c19 => ?_)
      · replace hf := (if_pos c19).symm.trans hf
        exact B177 K113 hK113 g a x1 x2 x3 x4 x5 x6 _ _ _ hP hS (lv_sub hl [0, 1, 2, 3, 4, 5, 6] rfl) hf
      · replace hf := (if_neg c19).symm.trans hf
        refine lv_iload hx hb dX12_around_141 (lv_at hl 6 rfl) ?_
        refine lv_if_eq (tgt := 177) hx hb dX12_around_143 (by decide) (fun c20 => ?_) (fun c20 => ?_)
        · replace hf := (if_pos c20).symm.trans hf
          exact B177 K113 hK113 g a x1 x2 x3 x4 x5 x6 _ _ _ hP hS (lv_sub hl [0, 1, 2, 3, 4, 5, 6] rfl) hf
        · replace hf := (if_neg c20).symm.trans hf
          refine lv_iload hx hb dX12_around_146 (lv_at hl 7 rfl) ?_
          refine lv_iload_n hx hb dX12_around_148 rfl (lv_at hl 1 rfl) ?_
          refine lv_icmp_eq (tgt := 164) hx hb dX12_around_149 (by decide) (fun c21 => ?_) (fun c21 => ?_)
          · replace hf := (if_pos c21).symm.trans hf
            refine lv_iconst (v := 1) hx hb dX12_around_164 (by decide) ?_
            refine lv_goto (tgt := 169) hx hb dX12_around_165 (by decide) ?_
            refine lv_istore (lv' := [(6, .int 1), (0, .ref (E.2.1 0)), (1, .int x1), (2, .int x2), (3, .int x3), (4, .int x4), (5, .int x5), (7, .int x7)]) hx hb dX12_around_169 hl (by decide) rfl (fun ls hl => ?_)
            refine lv_iinc (v := (x7 + 1)) (lv' := [(7, .int (x7 + 1)), (6, .int 1), (0, .ref (E.2.1 0)), (1, .int x1), (2, .int x2), (3, .int x3), (4, .int x4), (5, .int x5)]) hx hb dX12_around_171 hl (k := 7) rfl rfl (by decide) rfl (fun ls hl => ?_)
            refine lv_goto (tgt := 132) hx hb dX12_around_174 (by decide) ?_
            exact ih g a x1 x2 x3 x4 x5 1 (x7 + 1) _ _ _ hP hS (lv_sub hl [2, 3, 4, 5, 6, 7, 1, 0] rfl) hf
          · replace hf := (if_neg c21).symm.trans hf
            refine lv_aload_n hx hb dX12_around_152 rfl (lv_at hl 0 rfl) ?_
            refine lv_bipush (v := 6) hx hb dX12_around_153 (by decide) ?_
            refine lv_iload_n hx hb dX12_around_155 rfl (lv_at hl 2 rfl) ?_
            refine lv_iload hx hb dX12_around_156 (lv_at hl 7 rfl) ?_
            obtain ⟨u22, e23, hf⟩ := bd_some hf
            refine xci (xRunV (rest := []) (As := [.int 6, .int x2, .int x7]) (C := RX12) (k := 3) C0 (c_X12_doesKeep l E g a 6 x2 x7 e23) bw837 bw838 bw778 bw839 bw840 hd_X12_doesKeep ⟨Nat.le_of_ble_eq_true rfl, Nat.le_of_ble_eq_true rfl⟩ hP (wM_D hD) hS (va_recv hK hP (ci := 12) rfl (gm_0 E g a)) rfl hl.1 rfl (Nat.le_of_ble_eq_true rfl) dX12_around_158 ⟨Nat.zero_le _, Nat.zero_le _⟩) hS (fun H locs hP hS => ?_)
            refine lv_if_eq (tgt := 168) hx hb dX12_around_161 (by decide) (fun c24 => ?_) (fun c24 => ?_)
            · replace hf := (if_pos c24).symm.trans hf
              refine lv_iconst (v := 0) hx hb dX12_around_168 (by decide) ?_
              refine lv_istore (lv' := [(6, .int 0), (0, .ref (E.2.1 0)), (1, .int x1), (2, .int x2), (3, .int x3), (4, .int x4), (5, .int x5), (7, .int x7)]) hx hb dX12_around_169 hl (by decide) rfl (fun ls hl => ?_)
              refine lv_iinc (v := (x7 + 1)) (lv' := [(7, .int (x7 + 1)), (6, .int 0), (0, .ref (E.2.1 0)), (1, .int x1), (2, .int x2), (3, .int x3), (4, .int x4), (5, .int x5)]) hx hb dX12_around_171 hl (k := 7) rfl rfl (by decide) rfl (fun ls hl => ?_)
              refine lv_goto (tgt := 132) hx hb dX12_around_174 (by decide) ?_
              exact ih g u22.2 x1 x2 x3 x4 x5 0 (x7 + 1) _ _ _ hP hS (lv_sub hl [2, 3, 4, 5, 6, 7, 1, 0] rfl) hf
            · replace hf := (if_neg c24).symm.trans hf
              refine lv_iconst (v := 1) hx hb dX12_around_164 (by decide) ?_
              refine lv_goto (tgt := 169) hx hb dX12_around_165 (by decide) ?_
              refine lv_istore (lv' := [(6, .int 1), (0, .ref (E.2.1 0)), (1, .int x1), (2, .int x2), (3, .int x3), (4, .int x4), (5, .int x5), (7, .int x7)]) hx hb dX12_around_169 hl (by decide) rfl (fun ls hl => ?_)
              refine lv_iinc (v := (x7 + 1)) (lv' := [(7, .int (x7 + 1)), (6, .int 1), (0, .ref (E.2.1 0)), (1, .int x1), (2, .int x2), (3, .int x3), (4, .int x4), (5, .int x5)]) hx hb dX12_around_171 hl (k := 7) rfl rfl (by decide) rfl (fun ls hl => ?_)
              refine lv_goto (tgt := 132) hx hb dX12_around_174 (by decide) ?_
              exact ih g u22.2 x1 x2 x3 x4 x5 1 (x7 + 1) _ _ _ hP hS (lv_sub hl [2, 3, 4, 5, 6, 7, 1, 0] rfl) hf
  have B113 : ∀ (n : Nat) (g : xG) (a : xA) (x1 : Int32) (x2 : Int32) (x3 : Int32) (x4 : Int32) (x5 : Int32) (H : Heap) (locs : List Loc) (ls : Array Slot), va_P E.1 vwCl (wM E g a) H → va_S A s.heap H locs → lv_has ls 9 [(0, .ref (E.2.1 0)), (1, .int x1), (2, .int x2), (3, .int x3), (4, .int x4), (5, .int x5)] → f_X12_around_113 n g a x1 x2 x3 x4 x5 = some res → W p l e ({ frames := 5, cells := 0, slots := 0, locals := 123 }) s m ([.ref (E.2.1 0), .int v1] : List Value).toArray below meth c H locs 0 0 (MQ below ((xQi E res.1 (wM E res.2.1 res.2.2)) A) ([.ref (E.2.1 0), .int v1] : List Value).toArray s 0 0 A) (F0 m 113 ls []) := by
    intro n
    induction n with
    | zero => intro g a x1 x2 x3 x4 x5 H locs ls hP hS hl hf; exact absurd (show (none : Option (Int32 × xG × xA)) = some res from hf) (by intro h; cases h)
    | succ n ih =>
      intro g a x1 x2 x3 x4 x5 H locs ls hP hS hl hf
      replace hf := (e_X12_around_113 n g a x1 x2 x3 x4 x5).symm.trans hf
      refine lv_iload hx hb dX12_around_113 (lv_at hl 5 rfl) ?_
      refine lv_iload_n hx hb dX12_around_115 rfl (lv_at hl 3 rfl) ?_
      refine lv_icmp_ge (tgt := 253) hx hb dX12_around_116 (by decide) (fun c16 => ?_) (fun c16 => ?_)
      · replace hf := (if_pos c16).symm.trans hf
        refine lv_iload hx hb dX12_around_253 (lv_at hl 4 rfl) ?_
        exact xi_retS (fr := (fun r => r.1)) (fw := (fun r => wM E r.2.1 r.2.2)) hx hb hr hlocks (Option.some.inj hf) hP hS dX12_around_255
      · replace hf := (if_neg c16).symm.trans hf
        refine lv_aload_n hx hb dX12_around_119 rfl (lv_at hl 0 rfl) ?_
        refine lv_iload hx hb dX12_around_120 (lv_at hl 5 rfl) ?_
        refine lv_iload_n hx hb dX12_around_122 rfl (lv_at hl 2 rfl) ?_
        obtain ⟨u17, e18, hf⟩ := bd_some hf
        refine xcv (xRunV (rest := []) (As := [.int x5, .int x2]) (C := RX12) (k := 2) C0 (c_X12_triesCode l E g a x5 x2 e18) bw885 bw887 bw778 bw888 bw889 hd_X12_triesCode ⟨Nat.le_of_ble_eq_true rfl, Nat.le_of_ble_eq_true rfl⟩ hP (wM_D hD) hS (va_recv hK hP (ci := 12) rfl (gm_0 E g a)) rfl hl.1 rfl (Nat.le_of_ble_eq_true rfl) dX12_around_123 ⟨Nat.zero_le _, Nat.zero_le _⟩) hS (fun H locs hP hS => ?_)
        refine lv_iconst (v := 1) hx hb dX12_around_126 (by decide) ?_
        refine lv_istore (lv' := [(6, .int 1), (0, .ref (E.2.1 0)), (1, .int x1), (2, .int x2), (3, .int x3), (4, .int x4), (5, .int x5)]) hx hb dX12_around_127 hl (by decide) rfl (fun ls hl => ?_)
        refine lv_iconst (v := 0) hx hb dX12_around_129 (by decide) ?_
        refine lv_istore (lv' := [(7, .int 0), (6, .int 1), (0, .ref (E.2.1 0)), (1, .int x1), (2, .int x2), (3, .int x3), (4, .int x4), (5, .int x5)]) hx hb dX12_around_130 hl (by decide) rfl (fun ls hl => ?_)
        exact B132 (f_X12_around_113 n) ih fu g u17 x1 x2 x3 x4 x5 1 0 _ _ _ hP hS (lv_sub hl [2, 3, 4, 5, 6, 7, 1, 0] rfl) hf
  have B59 : ∀ (g : xG) (a : xA) (x1 : Int32) (x2 : Int32) (s0 : Int32) (H : Heap) (locs : List Loc) (ls : Array Slot), va_P E.1 vwCl (wM E g a) H → va_S A s.heap H locs → lv_has ls 9 [(0, .ref (E.2.1 0)), (1, .int x1), (2, .int x2)] → f_X12_around_59 g a x1 x2 s0 = some res → W p l e ({ frames := 5, cells := 0, slots := 0, locals := 123 }) s m ([.ref (E.2.1 0), .int v1] : List Value).toArray below meth c H locs 0 0 (MQ below ((xQi E res.1 (wM E res.2.1 res.2.2)) A) ([.ref (E.2.1 0), .int v1] : List Value).toArray s 0 0 A) (F0 m 59 ls [.int s0, .ref (E.2.1 0)]) := by
    intro g a x1 x2 s0 H locs ls hP hS hl hf
    unfold f_X12_around_59 at hf
    refine va_put (v := .int s0) (ty := .int) (C := RX12) (T := TX12) (N := 22) hx hb hw bfX120 tyX12 tyX12_ok nmX12 hown hK hP (wM_D hD) hS 0 (gm_0 E g a) rfl 21 (by decide) (hw _ bw771) (fun _ h9 => h9) rfl (by decide +kernel) rfl rfl (Nat.le_of_ble_eq_true rfl) dX12_around_59 (fun H locs hP _ hS => ?_)
    have hP := xP_eq (sm_g8 E g a s0) hP
    refine lv_aload_n hx hb dX12_around_62 rfl (lv_at hl 0 rfl) ?_
    refine va_get (C := RX12) (T := TX12) (N := 22) hx hb hw bfX120 hown hK hP 0 (gm_0 E (upd g 8 s0) a) rfl 21 (by decide) (hw _ bw771) (fun _ h9 => h9) rfl dX12_around_63 ?_
    refine lv_if_gt (tgt := 73) hx hb dX12_around_66 (by decide) (fun c10 => ?_) (fun c10 => ?_)
    · replace hf := (if_pos c10).symm.trans hf
      refine lv_iconst (v := 0) hx hb dX12_around_73 (by decide) ?_
      exact xi_retS (fr := (fun r => r.1)) (fw := (fun r => wM E r.2.1 r.2.2)) hx hb hr hlocks (Option.some.inj hf) hP hS dX12_around_74
    · replace hf := (if_neg c10).symm.trans hf
      refine lv_iload_n hx hb dX12_around_69 rfl (lv_at hl 2 rfl) ?_
      refine lv_if_ne (tgt := 75) hx hb dX12_around_70 (by decide) (fun c11 => ?_) (fun c11 => ?_)
      · replace hf := (if_neg c11).symm.trans hf
        refine lv_aload_n hx hb dX12_around_75 rfl (lv_at hl 0 rfl) ?_
        refine va_get (C := RX12) (T := TX12) (N := 22) hx hb hw bfX120 hown hK hP 0 (gm_0 E (upd g 8 s0) a) rfl 0 (by decide) (hw _ bw755) (fun _ h9 => h9) rfl dX12_around_76 ?_
        refine lv_iconst (v := 2) hx hb dX12_around_79 (by decide) ?_
        refine lv_icmp_ne (tgt := 93) hx hb dX12_around_80 (by decide) (fun c12 => ?_) (fun c12 => ?_)
        · replace hf := (if_neg c12).symm.trans hf
          refine lv_iload_n hx hb dX12_around_93 rfl (lv_at hl 2 rfl) ?_
          refine lv_iconst (v := 1) hx hb dX12_around_94 (by decide) ?_
          refine lv_icmp_ne (tgt := 103) hx hb dX12_around_95 (by decide) (fun c13 => ?_) (fun c13 => ?_)
          · replace hf := (if_neg c13).symm.trans hf
            refine lv_sipush (v := 19683) hx hb dX12_around_103 (by decide) ?_
            refine lv_istore_n (lv' := [(3, .int 19683), (0, .ref (E.2.1 0)), (1, .int x1), (2, .int x2)]) hx hb dX12_around_106 rfl hl (by decide) rfl (fun ls hl => ?_)
            refine lv_iconst (v := 0) hx hb dX12_around_107 (by decide) ?_
            refine lv_istore (lv' := [(4, .int 0), (3, .int 19683), (0, .ref (E.2.1 0)), (1, .int x1), (2, .int x2)]) hx hb dX12_around_108 hl (by decide) rfl (fun ls hl => ?_)
            refine lv_iconst (v := 0) hx hb dX12_around_110 (by decide) ?_
            refine lv_istore (lv' := [(5, .int 0), (4, .int 0), (3, .int 19683), (0, .ref (E.2.1 0)), (1, .int x1), (2, .int x2)]) hx hb dX12_around_111 hl (by decide) rfl (fun ls hl => ?_)
            exact B113 fu (upd g 8 s0) a x1 x2 19683 0 0 _ _ _ hP hS (lv_sub hl [3, 4, 5, 2, 1, 0] rfl) hf
          · replace hf := (if_pos c13).symm.trans hf
            refine lv_bipush (v := 27) hx hb dX12_around_98 (by decide) ?_
            refine lv_goto (tgt := 106) hx hb dX12_around_100 (by decide) ?_
            refine lv_istore_n (lv' := [(3, .int 27), (0, .ref (E.2.1 0)), (1, .int x1), (2, .int x2)]) hx hb dX12_around_106 rfl hl (by decide) rfl (fun ls hl => ?_)
            refine lv_iconst (v := 0) hx hb dX12_around_107 (by decide) ?_
            refine lv_istore (lv' := [(4, .int 0), (3, .int 27), (0, .ref (E.2.1 0)), (1, .int x1), (2, .int x2)]) hx hb dX12_around_108 hl (by decide) rfl (fun ls hl => ?_)
            refine lv_iconst (v := 0) hx hb dX12_around_110 (by decide) ?_
            refine lv_istore (lv' := [(5, .int 0), (4, .int 0), (3, .int 27), (0, .ref (E.2.1 0)), (1, .int x1), (2, .int x2)]) hx hb dX12_around_111 hl (by decide) rfl (fun ls hl => ?_)
            exact B113 fu (upd g 8 s0) a x1 x2 27 0 0 _ _ _ hP hS (lv_sub hl [3, 4, 5, 2, 1, 0] rfl) hf
        · replace hf := (if_pos c12).symm.trans hf
          refine lv_iconst (v := 1) hx hb dX12_around_83 (by decide) ?_
          refine lv_aload_n hx hb dX12_around_84 rfl (lv_at hl 0 rfl) ?_
          refine lv_iload_n hx hb dX12_around_85 rfl (lv_at hl 2 rfl) ?_
          obtain ⟨u14, e15, hf⟩ := bd_some hf
          refine xci (xRunV (rest := [.int 1]) (As := [.int x2]) (C := RX12) (k := 1) C0 (c_X12_power l E (upd g 8 s0) a x2 e15) bw773 bw775 bw778 bw776 bw777 hd_X12_power ⟨Nat.le_of_ble_eq_true rfl, Nat.le_of_ble_eq_true rfl⟩ hP (wM_D hD) hS (va_recv hK hP (ci := 12) rfl (gm_0 E (upd g 8 s0) a)) rfl hl.1 rfl (Nat.le_of_ble_eq_true rfl) dX12_around_86 ⟨Nat.zero_le _, Nat.zero_le _⟩) hS (fun H locs hP hS => ?_)
          refine lv_ishl hx hb dX12_around_89 ?_
          refine lv_goto (tgt := 106) hx hb dX12_around_90 (by decide) ?_
          refine lv_istore_n (lv' := [(3, .int ((1 : Int32) <<< (u14 &&& 31))), (0, .ref (E.2.1 0)), (1, .int x1), (2, .int x2)]) hx hb dX12_around_106 rfl hl (by decide) rfl (fun ls hl => ?_)
          refine lv_iconst (v := 0) hx hb dX12_around_107 (by decide) ?_
          refine lv_istore (lv' := [(4, .int 0), (3, .int ((1 : Int32) <<< (u14 &&& 31))), (0, .ref (E.2.1 0)), (1, .int x1), (2, .int x2)]) hx hb dX12_around_108 hl (by decide) rfl (fun ls hl => ?_)
          refine lv_iconst (v := 0) hx hb dX12_around_110 (by decide) ?_
          refine lv_istore (lv' := [(5, .int 0), (4, .int 0), (3, .int ((1 : Int32) <<< (u14 &&& 31))), (0, .ref (E.2.1 0)), (1, .int x1), (2, .int x2)]) hx hb dX12_around_111 hl (by decide) rfl (fun ls hl => ?_)
          exact B113 fu (upd g 8 s0) a x1 x2 ((1 : Int32) <<< (u14 &&& 31)) 0 0 _ _ _ hP hS (lv_sub hl [3, 4, 5, 2, 1, 0] rfl) hf
      · replace hf := (if_pos c11).symm.trans hf
        refine lv_iconst (v := 0) hx hb dX12_around_73 (by decide) ?_
        exact xi_retS (fr := (fun r => r.1)) (fw := (fun r => wM E r.2.1 r.2.2)) hx hb hr hlocks (Option.some.inj hf) hP hS dX12_around_74
  have B51 : ∀ (g : xG) (a : xA) (x1 : Int32) (x2 : Int32) (s0 : Int32) (s1 : Int32) (H : Heap) (locs : List Loc) (ls : Array Slot), va_P E.1 vwCl (wM E g a) H → va_S A s.heap H locs → lv_has ls 9 [(0, .ref (E.2.1 0)), (1, .int x1), (2, .int x2)] → f_X12_around_51 g a x1 x2 s0 s1 = some res → W p l e ({ frames := 5, cells := 0, slots := 0, locals := 123 }) s m ([.ref (E.2.1 0), .int v1] : List Value).toArray below meth c H locs 0 0 (MQ below ((xQi E res.1 (wM E res.2.1 res.2.2)) A) ([.ref (E.2.1 0), .int v1] : List Value).toArray s 0 0 A) (F0 m 51 ls [.int s0, .int s1, .ref (E.2.1 0)]) := by
    intro g a x1 x2 s0 s1 H locs ls hP hS hl hf
    unfold f_X12_around_51 at hf
    refine lv_icmp_le (tgt := 58) hx hb dX12_around_51 (by decide) (fun c9 => ?_) (fun c9 => ?_)
    · replace hf := (if_pos c9).symm.trans hf
      refine lv_iconst (v := 0) hx hb dX12_around_58 (by decide) ?_
      exact B59 g a x1 x2 0 _ _ _ hP hS (lv_sub hl [0, 1, 2] rfl) hf
    · replace hf := (if_neg c9).symm.trans hf
      refine lv_iconst (v := 2) hx hb dX12_around_54 (by decide) ?_
      refine lv_goto (tgt := 59) hx hb dX12_around_55 (by decide) ?_
      exact B59 g a x1 x2 2 _ _ _ hP hS (lv_sub hl [0, 1, 2] rfl) hf
  have B14 : ∀ (g : xG) (a : xA) (x1 : Int32) (s0 : Int32) (H : Heap) (locs : List Loc) (ls : Array Slot), va_P E.1 vwCl (wM E g a) H → va_S A s.heap H locs → lv_has ls 9 [(0, .ref (E.2.1 0)), (1, .int x1)] → f_X12_around_14 g a x1 s0 = some res → W p l e ({ frames := 5, cells := 0, slots := 0, locals := 123 }) s m ([.ref (E.2.1 0), .int v1] : List Value).toArray below meth c H locs 0 0 (MQ below ((xQi E res.1 (wM E res.2.1 res.2.2)) A) ([.ref (E.2.1 0), .int v1] : List Value).toArray s 0 0 A) (F0 m 14 ls [.int s0, .ref (E.2.1 0)]) := by
    intro g a x1 s0 H locs ls hP hS hl hf
    unfold f_X12_around_14 at hf
    refine va_put (v := .int s0) (ty := .int) (C := RX12) (T := TX12) (N := 22) hx hb hw bfX120 tyX12 tyX12_ok nmX12 hown hK hP (wM_D hD) hS 0 (gm_0 E g a) rfl 21 (by decide) (hw _ bw771) (fun _ h9 => h9) rfl (by decide +kernel) rfl rfl (Nat.le_of_ble_eq_true rfl) dX12_around_14 (fun H locs hP _ hS => ?_)
    have hP := xP_eq (sm_g8 E g a s0) hP
    refine lv_aload_n hx hb dX12_around_17 rfl (lv_at hl 0 rfl) ?_
    refine va_get (C := RX12) (T := TX12) (N := 22) hx hb hw bfX120 hown hK hP 0 (gm_0 E (upd g 8 s0) a) rfl 21 (by decide) (hw _ bw771) (fun _ h9 => h9) rfl dX12_around_18 ?_
    refine lv_if_le (tgt := 26) hx hb dX12_around_21 (by decide) (fun c4 => ?_) (fun c4 => ?_)
    · replace hf := (if_pos c4).symm.trans hf
      refine lv_aload_n hx hb dX12_around_26 rfl (lv_at hl 0 rfl) ?_
      refine va_get (C := RX12) (T := TX12) (N := 22) hx hb hw bfX120 hown hK hP 0 (gm_0 E (upd g 8 s0) a) rfl 3 (by decide) (hw _ bw757) (fun _ h9 => h9) rfl dX12_around_27 ?_
      refine lv_iload_n hx hb dX12_around_30 rfl (lv_at hl 1 rfl) ?_
      obtain ⟨k5, hf⟩ := ck_some hf
      refine va_iald hx hb hK hP 2 0 (gm_2 E (upd g 8 s0) a) rfl (inB_in k5) dX12_around_31 ?_
      obtain ⟨u6, e7, hf⟩ := bd_some hf
      refine xci (xRunS (rest := []) (As := [.int (a 2 (x1 : Int32).toNatClampNeg)]) (k := 1) C0 (c_X12_count l E (upd g 8 s0) a (a 2 (x1 : Int32).toNatClampNeg) e7) bw780 bw796 bw778 bw797 hd_X12_count ⟨Nat.le_of_ble_eq_true rfl, Nat.le_of_ble_eq_true rfl⟩ hP (wM_D hD) hS rfl hl.1 rfl (Nat.le_of_ble_eq_true rfl) dX12_around_32 ⟨Nat.zero_le _, Nat.zero_le _⟩) hS (fun H locs hP hS => ?_)
      refine lv_istore_n (lv' := [(2, .int u6), (0, .ref (E.2.1 0)), (1, .int x1)]) hx hb dX12_around_35 rfl hl (by decide) rfl (fun ls hl => ?_)
      refine lv_aload_n hx hb dX12_around_36 rfl (lv_at hl 1 rfl) ?_
      refine lv_iload_n hx hb dX12_around_37 rfl (lv_at hl 0 rfl) ?_
      refine lv_aload_n hx hb dX12_around_38 rfl (lv_at hl 1 rfl) ?_
      refine va_get (C := RX12) (T := TX12) (N := 22) hx hb hw bfX120 hown hK hP 0 (gm_0 E (upd g 8 s0) a) rfl 0 (by decide) (hw _ bw755) (fun _ h9 => h9) rfl dX12_around_39 ?_
      refine lv_iconst (v := 2) hx hb dX12_around_42 (by decide) ?_
      refine lv_icmp_ne (tgt := 50) hx hb dX12_around_43 (by decide) (fun c8 => ?_) (fun c8 => ?_)
      · replace hf := (if_neg c8).symm.trans hf
        refine lv_iconst (v := 2) hx hb dX12_around_50 (by decide) ?_
        exact B51 (upd g 8 s0) a x1 u6 2 u6 _ _ _ hP hS (lv_sub hl [1, 2, 0] rfl) hf
      · replace hf := (if_pos c8).symm.trans hf
        refine lv_iconst (v := 3) hx hb dX12_around_46 (by decide) ?_
        refine lv_goto (tgt := 51) hx hb dX12_around_47 (by decide) ?_
        exact B51 (upd g 8 s0) a x1 u6 3 u6 _ _ _ hP hS (lv_sub hl [1, 2, 0] rfl) hf
    · replace hf := (if_neg c4).symm.trans hf
      refine lv_iconst (v := 0) hx hb dX12_around_24 (by decide) ?_
      exact xi_retS (fr := (fun r => r.1)) (fw := (fun r => wM E r.2.1 r.2.2)) hx hb hr hlocks (Option.some.inj hf) hP hS dX12_around_25
  refine lv_aload_n hx hb dX12_around_0 rfl (lv_at hl 0 rfl) ?_
  refine lv_aload_n hx hb dX12_around_1 rfl (lv_at hl 0 rfl) ?_
  refine lv_iload_n hx hb dX12_around_2 rfl (lv_at hl 1 rfl) ?_
  obtain ⟨u1, e2, hf⟩ := bd_some hf
  refine xci (xRunV (rest := [.ref (E.2.1 0)]) (As := [.int v1]) (C := RX12) (k := 1) C0 (c_X12_isRelation l E g a v1 e2) bw788 bw790 bw778 bw791 bw792 hd_X12_isRelation ⟨Nat.le_of_ble_eq_true rfl, Nat.le_of_ble_eq_true rfl⟩ hP (wM_D hD) hS (va_recv hK hP (ci := 12) rfl (gm_0 E g a)) rfl hl.1 rfl (Nat.le_of_ble_eq_true rfl) dX12_around_3 ⟨Nat.zero_le _, Nat.zero_le _⟩) hS (fun H locs hP hS => ?_)
  refine lv_if_eq (tgt := 13) hx hb dX12_around_6 (by decide) (fun c3 => ?_) (fun c3 => ?_)
  · replace hf := (if_pos c3).symm.trans hf
    refine lv_iconst (v := 1) hx hb dX12_around_13 (by decide) ?_
    exact B14 g a v1 1 _ _ _ hP hS (lv_sub hl [0, 1] rfl) hf
  · replace hf := (if_neg c3).symm.trans hf
    refine lv_iconst (v := 0) hx hb dX12_around_9 (by decide) ?_
    refine lv_goto (tgt := 14) hx hb dX12_around_10 (by decide) ?_
    exact B14 g a v1 0 _ _ _ hP hS (lv_sub hl [0, 1] rfl) hf
