/-! X12_isBetween, X12_findsPairs, X12_pairs -/
def f_X12_isBetween_38 (g : xG) (a : xA) (K6 : Int32 → Int32 → Int32 → Int32 → Int32 → Int32 → Option (Int32)) : Nat → Int32 → Int32 → Int32 → Int32 → Int32 → Int32 → Int32 → Option (Int32)
  | 0, _, _, _, _, _, _, _ => none
  | n + 1, x1, x2, x3, x4, x6, x7, x8 => (if (g 0) ≤ x8 then K6 x1 x2 x3 x4 x7 (x6 + 1) else (if x7 = 0 then ck (inB ((6 * x1) + x6) 36) ((if (t_X12_isIn g a (a 13 (((6 * x1) + x6) : Int32).toNatClampNeg) (x2 + ((g 0) * x8))) = 0 then f_X12_isBetween_38 g a K6 n x1 x2 x3 x4 x6 0 (x8 + 1) else ck (inB ((6 * x6) + x3) 36) ((if (t_X12_isIn g a (a 13 (((6 * x6) + x3) : Int32).toNatClampNeg) (x8 + ((g 0) * x4))) = 0 then f_X12_isBetween_38 g a K6 n x1 x2 x3 x4 x6 0 (x8 + 1) else f_X12_isBetween_38 g a K6 n x1 x2 x3 x4 x6 1 (x8 + 1))))) else f_X12_isBetween_38 g a K6 n x1 x2 x3 x4 x6 1 (x8 + 1)))
theorem e_X12_isBetween_38 (g : xG) (a : xA) (K6 : Int32 → Int32 → Int32 → Int32 → Int32 → Int32 → Option (Int32)) (n : Nat) (x1 : Int32) (x2 : Int32) (x3 : Int32) (x4 : Int32) (x6 : Int32) (x7 : Int32) (x8 : Int32) : f_X12_isBetween_38 g a K6 (n + 1) x1 x2 x3 x4 x6 x7 x8 = (if (g 0) ≤ x8 then K6 x1 x2 x3 x4 x7 (x6 + 1) else (if x7 = 0 then ck (inB ((6 * x1) + x6) 36) ((if (t_X12_isIn g a (a 13 (((6 * x1) + x6) : Int32).toNatClampNeg) (x2 + ((g 0) * x8))) = 0 then f_X12_isBetween_38 g a K6 n x1 x2 x3 x4 x6 0 (x8 + 1) else ck (inB ((6 * x6) + x3) 36) ((if (t_X12_isIn g a (a 13 (((6 * x6) + x3) : Int32).toNatClampNeg) (x8 + ((g 0) * x4))) = 0 then f_X12_isBetween_38 g a K6 n x1 x2 x3 x4 x6 0 (x8 + 1) else f_X12_isBetween_38 g a K6 n x1 x2 x3 x4 x6 1 (x8 + 1))))) else f_X12_isBetween_38 g a K6 n x1 x2 x3 x4 x6 1 (x8 + 1))) := rfl
def f_X12_isBetween_6 (g : xG) (a : xA) : Nat → Int32 → Int32 → Int32 → Int32 → Int32 → Int32 → Option (Int32)
  | 0, _, _, _, _, _, _ => none
  | n + 1, x1, x2, x3, x4, x5, x6 => (if (g 6) ≤ x6 then ck (boB x5) (some x5) else (if x5 = 0 then ck (boB x5) (some x5) else (if x6 = x1 then f_X12_isBetween_6 g a n x1 x2 x3 x4 x5 (x6 + 1) else (if x6 = x3 then f_X12_isBetween_6 g a n x1 x2 x3 x4 x5 (x6 + 1) else f_X12_isBetween_38 g a (f_X12_isBetween_6 g a n) fu x1 x2 x3 x4 x6 0 0))))
theorem e_X12_isBetween_6 (g : xG) (a : xA) (n : Nat) (x1 : Int32) (x2 : Int32) (x3 : Int32) (x4 : Int32) (x5 : Int32) (x6 : Int32) : f_X12_isBetween_6 g a (n + 1) x1 x2 x3 x4 x5 x6 = (if (g 6) ≤ x6 then ck (boB x5) (some x5) else (if x5 = 0 then ck (boB x5) (some x5) else (if x6 = x1 then f_X12_isBetween_6 g a n x1 x2 x3 x4 x5 (x6 + 1) else (if x6 = x3 then f_X12_isBetween_6 g a n x1 x2 x3 x4 x5 (x6 + 1) else f_X12_isBetween_38 g a (f_X12_isBetween_6 g a n) fu x1 x2 x3 x4 x6 0 0)))) := rfl
def f_X12_isBetween (g : xG) (a : xA) (v1 : Int32) (v2 : Int32) (v3 : Int32) (v4 : Int32) : Option (Int32) := f_X12_isBetween_6 g a fu v1 v2 v3 v4 1 0
set_option maxRecDepth 100000 in
set_option maxHeartbeats 40000000 in
theorem c_X12_isBetween (l : Launch) (E : xE) (g : xG) (a : xA) (v1 : Int32) (v2 : Int32) (v3 : Int32) (v4 : Int32) {res : Int32} (hf : f_X12_isBetween g a v1 v2 v3 v4 = some res) : xM l E yX12_isBetween cX12_isBetween 9 (some .boolean) 1 21 [.ref (E.2.1 0), .int v1, .int v2, .int v3, .int v4] (wM E g a) (xQi E res (wM E g a)) := by
  unfold f_X12_isBetween at hf
  refine xM_of (by decide) (Nat.le_of_ble_eq_true rfl) ?_
  intro p e s m below meth c A hx hb hr hml hts hown hlocks hA hD hP hK hN hS ls hl
  have hw : ∀ w ∈ BW, w.before _ s = true := fun w h => hts w (List.mem_cons_of_mem _ h)
  have C0 : xCtx E p m c cX12_isBetween 9 s _ RX12 A yX12_isBetween cX12_isBetween 9 (some .boolean) := ⟨hx, hb, hml, hown, hts, hA, hK, hN⟩
  have hl : lv_has ls 9 [(0, .ref (E.2.1 0)), (1, .int v1), (2, .int v2), (3, .int v3), (4, .int v4)] := hl
  have B38 : ∀ (K6 : Int32 → Int32 → Int32 → Int32 → Int32 → Int32 → Option (Int32)) (hK6 : ∀ (x1 : Int32) (x2 : Int32) (x3 : Int32) (x4 : Int32) (x5 : Int32) (x6 : Int32) (H : Heap) (locs : List Loc) (ls : Array Slot), va_P E.1 vwCl (wM E g a) H → va_S A s.heap H locs → lv_has ls 9 [(0, .ref (E.2.1 0)), (1, .int x1), (2, .int x2), (3, .int x3), (4, .int x4), (5, .int x5), (6, .int x6)] → K6 x1 x2 x3 x4 x5 x6 = some res → W p l e ({ frames := 1, cells := 0, slots := 0, locals := 21 }) s m ([.ref (E.2.1 0), .int v1, .int v2, .int v3, .int v4] : List Value).toArray below meth c H locs 0 0 (MQ below ((xQi E res (wM E g a)) A) ([.ref (E.2.1 0), .int v1, .int v2, .int v3, .int v4] : List Value).toArray s 0 0 A) (F0 m 6 ls [])) (n : Nat) (x1 : Int32) (x2 : Int32) (x3 : Int32) (x4 : Int32) (x6 : Int32) (x7 : Int32) (x8 : Int32) (H : Heap) (locs : List Loc) (ls : Array Slot), va_P E.1 vwCl (wM E g a) H → va_S A s.heap H locs → lv_has ls 9 [(0, .ref (E.2.1 0)), (1, .int x1), (2, .int x2), (3, .int x3), (4, .int x4), (6, .int x6), (7, .int x7), (8, .int x8)] → f_X12_isBetween_38 g a K6 n x1 x2 x3 x4 x6 x7 x8 = some res → W p l e ({ frames := 1, cells := 0, slots := 0, locals := 21 }) s m ([.ref (E.2.1 0), .int v1, .int v2, .int v3, .int v4] : List Value).toArray below meth c H locs 0 0 (MQ below ((xQi E res (wM E g a)) A) ([.ref (E.2.1 0), .int v1, .int v2, .int v3, .int v4] : List Value).toArray s 0 0 A) (F0 m 38 ls []) := by
    intro K6 hK6 n
    induction n with
    | zero => intro x1 x2 x3 x4 x6 x7 x8 H locs ls hP hS hl hf; exact absurd (show (none : Option (Int32)) = some res from hf) (by intro h; cases h)
    | succ n ih =>
      intro x1 x2 x3 x4 x6 x7 x8 H locs ls hP hS hl hf
      replace hf := (e_X12_isBetween_38 g a K6 n x1 x2 x3 x4 x6 x7 x8).symm.trans hf
      refine lv_iload hx hb dX12_isBetween_38 (lv_at hl 7 rfl) ?_
      refine lv_aload_n hx hb dX12_isBetween_40 rfl (lv_at hl 0 rfl) ?_
      refine va_get (C := RX12) (T := TX12) (N := 22) hx hb hw bfX120 hown hK hP 0 (gm_0 E g a) rfl 0 (by decide) (hw _ bw755) (fun _ h9 => h9) rfl dX12_isBetween_41 ?_
      refine lv_icmp_ge (tgt := 120) hx hb dX12_isBetween_44 (by decide) (fun c7 => ?_) (fun c7 => ?_)
      · replace hf := (if_pos c7).symm.trans hf
        refine lv_iload hx hb dX12_isBetween_120 (lv_at hl 6 rfl) ?_
        refine lv_istore (lv' := [(5, .int x7), (0, .ref (E.2.1 0)), (1, .int x1), (2, .int x2), (3, .int x3), (4, .int x4), (6, .int x6), (7, .int x7), (8, .int x8)]) hx hb dX12_isBetween_122 hl (by decide) rfl (fun ls hl => ?_)
        refine lv_iinc (v := (x6 + 1)) (lv' := [(6, .int (x6 + 1)), (5, .int x7), (0, .ref (E.2.1 0)), (1, .int x1), (2, .int x2), (3, .int x3), (4, .int x4), (7, .int x7), (8, .int x8)]) hx hb dX12_isBetween_124 hl (k := 6) rfl rfl (by decide) rfl (fun ls hl => ?_)
        refine lv_goto (tgt := 6) hx hb dX12_isBetween_127 (by decide) ?_
        exact hK6 x1 x2 x3 x4 x7 (x6 + 1) _ _ _ hP hS (lv_sub hl [2, 3, 4, 5, 6, 1, 0] rfl) hf
      · replace hf := (if_neg c7).symm.trans hf
        refine lv_iload hx hb dX12_isBetween_47 (lv_at hl 6 rfl) ?_
        refine lv_if_ne (tgt := 107) hx hb dX12_isBetween_49 (by decide) (fun c8 => ?_) (fun c8 => ?_)
        · replace hf := (if_neg c8).symm.trans hf
          refine lv_iconst (v := 1) hx hb dX12_isBetween_107 (by decide) ?_
          refine lv_goto (tgt := 112) hx hb dX12_isBetween_108 (by decide) ?_
          refine lv_istore (lv' := [(7, .int 1), (0, .ref (E.2.1 0)), (1, .int x1), (2, .int x2), (3, .int x3), (4, .int x4), (6, .int x6), (8, .int x8)]) hx hb dX12_isBetween_112 hl (by decide) rfl (fun ls hl => ?_)
          refine lv_iinc (v := (x8 + 1)) (lv' := [(8, .int (x8 + 1)), (7, .int 1), (0, .ref (E.2.1 0)), (1, .int x1), (2, .int x2), (3, .int x3), (4, .int x4), (6, .int x6)]) hx hb dX12_isBetween_114 hl (k := 7) rfl rfl (by decide) rfl (fun ls hl => ?_)
          refine lv_goto (tgt := 38) hx hb dX12_isBetween_117 (by decide) ?_
          exact ih x1 x2 x3 x4 x6 1 (x8 + 1) _ _ _ hP hS (lv_sub hl [2, 3, 4, 5, 6, 7, 1, 0] rfl) hf
        · replace hf := (if_pos c8).symm.trans hf
          refine lv_aload_n hx hb dX12_isBetween_52 rfl (lv_at hl 0 rfl) ?_
          refine va_get (C := RX12) (T := TX12) (N := 22) hx hb hw bfX120 hown hK hP 0 (gm_0 E g a) rfl 20 (by decide) (hw _ bw769) (fun _ h9 => h9) rfl dX12_isBetween_53 ?_
          refine lv_bipush (v := 6) hx hb dX12_isBetween_56 (by decide) ?_
          refine lv_iload_n hx hb dX12_isBetween_58 rfl (lv_at hl 1 rfl) ?_
          refine lv_imul hx hb dX12_isBetween_59 ?_
          refine lv_iload hx hb dX12_isBetween_60 (lv_at hl 5 rfl) ?_
          refine lv_iadd hx hb dX12_isBetween_62 ?_
          obtain ⟨k9, hf⟩ := ck_some hf
          refine va_iald hx hb hK hP 13 0 (gm_13 E g a) rfl (inB_in k9) dX12_isBetween_63 ?_
          refine lv_iload_n hx hb dX12_isBetween_64 rfl (lv_at hl 2 rfl) ?_
          refine lv_aload_n hx hb dX12_isBetween_65 rfl (lv_at hl 0 rfl) ?_
          refine va_get (C := RX12) (T := TX12) (N := 22) hx hb hw bfX120 hown hK hP 0 (gm_0 E g a) rfl 0 (by decide) (hw _ bw755) (fun _ h9 => h9) rfl dX12_isBetween_66 ?_
          refine lv_iload hx hb dX12_isBetween_69 (lv_at hl 7 rfl) ?_
          refine lv_imul hx hb dX12_isBetween_71 ?_
          refine lv_iadd hx hb dX12_isBetween_72 ?_
          refine xci (xRunS (rest := []) (As := [.int (a 13 (((6 * x1) + x6) : Int32).toNatClampNeg), .int (x2 + ((g 0) * x8))]) (k := 2) C0 (c_X12_isIn l E g a (a 13 (((6 * x1) + x6) : Int32).toNatClampNeg) (x2 + ((g 0) * x8))) bw779 bw793 bw778 bw794 hd_X12_isIn ⟨Nat.le_of_ble_eq_true rfl, Nat.le_of_ble_eq_true rfl⟩ hP (wM_D hD) hS rfl hl.1 rfl (Nat.le_of_ble_eq_true rfl) dX12_isBetween_73 ⟨Nat.zero_le _, Nat.zero_le _⟩) hS (fun H locs hP hS => ?_)
          refine lv_if_eq (tgt := 111) hx hb dX12_isBetween_76 (by decide) (fun c10 => ?_) (fun c10 => ?_)
          · replace hf := (if_pos c10).symm.trans hf
            refine lv_iconst (v := 0) hx hb dX12_isBetween_111 (by decide) ?_
            refine lv_istore (lv' := [(7, .int 0), (0, .ref (E.2.1 0)), (1, .int x1), (2, .int x2), (3, .int x3), (4, .int x4), (6, .int x6), (8, .int x8)]) hx hb dX12_isBetween_112 hl (by decide) rfl (fun ls hl => ?_)
            refine lv_iinc (v := (x8 + 1)) (lv' := [(8, .int (x8 + 1)), (7, .int 0), (0, .ref (E.2.1 0)), (1, .int x1), (2, .int x2), (3, .int x3), (4, .int x4), (6, .int x6)]) hx hb dX12_isBetween_114 hl (k := 7) rfl rfl (by decide) rfl (fun ls hl => ?_)
            refine lv_goto (tgt := 38) hx hb dX12_isBetween_117 (by decide) ?_
            exact ih x1 x2 x3 x4 x6 0 (x8 + 1) _ _ _ hP hS (lv_sub hl [2, 3, 4, 5, 6, 7, 1, 0] rfl) hf
          · replace hf := (if_neg c10).symm.trans hf
            refine lv_aload_n hx hb dX12_isBetween_79 rfl (lv_at hl 0 rfl) ?_
            refine va_get (C := RX12) (T := TX12) (N := 22) hx hb hw bfX120 hown hK hP 0 (gm_0 E g a) rfl 20 (by decide) (hw _ bw769) (fun _ h9 => h9) rfl dX12_isBetween_80 ?_
            refine lv_bipush (v := 6) hx hb dX12_isBetween_83 (by decide) ?_
            refine lv_iload hx hb dX12_isBetween_85 (lv_at hl 5 rfl) ?_
            refine lv_imul hx hb dX12_isBetween_87 ?_
            refine lv_iload_n hx hb dX12_isBetween_88 rfl (lv_at hl 3 rfl) ?_
            refine lv_iadd hx hb dX12_isBetween_89 ?_
            obtain ⟨k11, hf⟩ := ck_some hf
            refine va_iald hx hb hK hP 13 0 (gm_13 E g a) rfl (inB_in k11) dX12_isBetween_90 ?_
            refine lv_iload hx hb dX12_isBetween_91 (lv_at hl 7 rfl) ?_
            refine lv_aload_n hx hb dX12_isBetween_93 rfl (lv_at hl 0 rfl) ?_
            refine va_get (C := RX12) (T := TX12) (N := 22) hx hb hw bfX120 hown hK hP 0 (gm_0 E g a) rfl 0 (by decide) (hw _ bw755) (fun _ h9 => h9) rfl dX12_isBetween_94 ?_
            refine lv_iload hx hb dX12_isBetween_97 (lv_at hl 4 rfl) ?_
            refine lv_imul hx hb dX12_isBetween_99 ?_
            refine lv_iadd hx hb dX12_isBetween_100 ?_
            refine xci (xRunS (rest := []) (As := [.int (a 13 (((6 * x6) + x3) : Int32).toNatClampNeg), .int (x8 + ((g 0) * x4))]) (k := 2) C0 (c_X12_isIn l E g a (a 13 (((6 * x6) + x3) : Int32).toNatClampNeg) (x8 + ((g 0) * x4))) bw779 bw793 bw778 bw794 hd_X12_isIn ⟨Nat.le_of_ble_eq_true rfl, Nat.le_of_ble_eq_true rfl⟩ hP (wM_D hD) hS rfl hl.1 rfl (Nat.le_of_ble_eq_true rfl) dX12_isBetween_101 ⟨Nat.zero_le _, Nat.zero_le _⟩) hS (fun H locs hP hS => ?_)
            refine lv_if_eq (tgt := 111) hx hb dX12_isBetween_104 (by decide) (fun c12 => ?_) (fun c12 => ?_)
            · replace hf := (if_pos c12).symm.trans hf
              refine lv_iconst (v := 0) hx hb dX12_isBetween_111 (by decide) ?_
              refine lv_istore (lv' := [(7, .int 0), (0, .ref (E.2.1 0)), (1, .int x1), (2, .int x2), (3, .int x3), (4, .int x4), (6, .int x6), (8, .int x8)]) hx hb dX12_isBetween_112 hl (by decide) rfl (fun ls hl => ?_)
              refine lv_iinc (v := (x8 + 1)) (lv' := [(8, .int (x8 + 1)), (7, .int 0), (0, .ref (E.2.1 0)), (1, .int x1), (2, .int x2), (3, .int x3), (4, .int x4), (6, .int x6)]) hx hb dX12_isBetween_114 hl (k := 7) rfl rfl (by decide) rfl (fun ls hl => ?_)
              refine lv_goto (tgt := 38) hx hb dX12_isBetween_117 (by decide) ?_
              exact ih x1 x2 x3 x4 x6 0 (x8 + 1) _ _ _ hP hS (lv_sub hl [2, 3, 4, 5, 6, 7, 1, 0] rfl) hf
            · replace hf := (if_neg c12).symm.trans hf
              refine lv_iconst (v := 1) hx hb dX12_isBetween_107 (by decide) ?_
              refine lv_goto (tgt := 112) hx hb dX12_isBetween_108 (by decide) ?_
              refine lv_istore (lv' := [(7, .int 1), (0, .ref (E.2.1 0)), (1, .int x1), (2, .int x2), (3, .int x3), (4, .int x4), (6, .int x6), (8, .int x8)]) hx hb dX12_isBetween_112 hl (by decide) rfl (fun ls hl => ?_)
              refine lv_iinc (v := (x8 + 1)) (lv' := [(8, .int (x8 + 1)), (7, .int 1), (0, .ref (E.2.1 0)), (1, .int x1), (2, .int x2), (3, .int x3), (4, .int x4), (6, .int x6)]) hx hb dX12_isBetween_114 hl (k := 7) rfl rfl (by decide) rfl (fun ls hl => ?_)
              refine lv_goto (tgt := 38) hx hb dX12_isBetween_117 (by decide) ?_
              exact ih x1 x2 x3 x4 x6 1 (x8 + 1) _ _ _ hP hS (lv_sub hl [2, 3, 4, 5, 6, 7, 1, 0] rfl) hf
  have B6 : ∀ (n : Nat) (x1 : Int32) (x2 : Int32) (x3 : Int32) (x4 : Int32) (x5 : Int32) (x6 : Int32) (H : Heap) (locs : List Loc) (ls : Array Slot), va_P E.1 vwCl (wM E g a) H → va_S A s.heap H locs → lv_has ls 9 [(0, .ref (E.2.1 0)), (1, .int x1), (2, .int x2), (3, .int x3), (4, .int x4), (5, .int x5), (6, .int x6)] → f_X12_isBetween_6 g a n x1 x2 x3 x4 x5 x6 = some res → W p l e ({ frames := 1, cells := 0, slots := 0, locals := 21 }) s m ([.ref (E.2.1 0), .int v1, .int v2, .int v3, .int v4] : List Value).toArray below meth c H locs 0 0 (MQ below ((xQi E res (wM E g a)) A) ([.ref (E.2.1 0), .int v1, .int v2, .int v3, .int v4] : List Value).toArray s 0 0 A) (F0 m 6 ls []) := by
    intro n
    induction n with
    | zero => intro x1 x2 x3 x4 x5 x6 H locs ls hP hS hl hf; exact absurd (show (none : Option (Int32)) = some res from hf) (by intro h; cases h)
    | succ n ih =>
      intro x1 x2 x3 x4 x5 x6 H locs ls hP hS hl hf
      replace hf := (e_X12_isBetween_6 g a n x1 x2 x3 x4 x5 x6).symm.trans hf
      refine lv_iload hx hb dX12_isBetween_6 (lv_at hl 6 rfl) ?_
      refine lv_aload_n hx hb dX12_isBetween_8 rfl (lv_at hl 0 rfl) ?_
      refine va_get (C := RX12) (T := TX12) (N := 22) hx hb hw bfX120 hown hK hP 0 (gm_0 E g a) rfl 14 (by decide) (hw _ bw764) (fun _ h9 => h9) rfl dX12_isBetween_9 ?_
      refine lv_icmp_ge (tgt := 130) hx hb dX12_isBetween_12 (by decide) (fun c1 => ?_) (fun c1 => ?_)
      · replace hf := (if_pos c1).symm.trans hf
        refine lv_iload hx hb dX12_isBetween_130 (lv_at hl 5 rfl) ?_
        obtain ⟨k2, hf⟩ := ck_some hf
        exact xz_retS (fr := (fun r => r)) (fw := (fun r => wM E g a)) hx hb hr hlocks (Option.some.inj hf) (boB_bo k2) hP hS dX12_isBetween_132
      · replace hf := (if_neg c1).symm.trans hf
        refine lv_iload hx hb dX12_isBetween_15 (lv_at hl 5 rfl) ?_
        refine lv_if_eq (tgt := 130) hx hb dX12_isBetween_17 (by decide) (fun c3 => ?_) (fun c3 => ?_)
        · replace hf := (if_pos c3).symm.trans hf
          refine lv_iload hx hb dX12_isBetween_130 (lv_at hl 5 rfl) ?_
          obtain ⟨k4, hf⟩ := ck_some hf
          exact xz_retS (fr := (fun r => r)) (fw := (fun r => wM E g a)) hx hb hr hlocks (Option.some.inj hf) (boB_bo k4) hP hS dX12_isBetween_132
        · replace hf := (if_neg c3).symm.trans hf
          refine lv_iload hx hb dX12_isBetween_20 (lv_at hl 6 rfl) ?_
          refine lv_iload_n hx hb dX12_isBetween_22 rfl (lv_at hl 1 rfl) ?_
          refine lv_icmp_eq (tgt := 124) hx hb dX12_isBetween_23 (by decide) (fun c5 => ?_) (fun c5 => ?_)
          · replace hf := (if_pos c5).symm.trans hf
            refine lv_iinc (v := (x6 + 1)) (lv' := [(6, .int (x6 + 1)), (0, .ref (E.2.1 0)), (1, .int x1), (2, .int x2), (3, .int x3), (4, .int x4), (5, .int x5)]) hx hb dX12_isBetween_124 hl (k := 6) rfl rfl (by decide) rfl (fun ls hl => ?_)
            refine lv_goto (tgt := 6) hx hb dX12_isBetween_127 (by decide) ?_
            exact ih x1 x2 x3 x4 x5 (x6 + 1) _ _ _ hP hS (lv_sub hl [1, 2, 3, 4, 5, 6, 0] rfl) hf
          · replace hf := (if_neg c5).symm.trans hf
            refine lv_iload hx hb dX12_isBetween_26 (lv_at hl 6 rfl) ?_
            refine lv_iload_n hx hb dX12_isBetween_28 rfl (lv_at hl 3 rfl) ?_
            refine lv_icmp_eq (tgt := 124) hx hb dX12_isBetween_29 (by decide) (fun c6 => ?_) (fun c6 => ?_)
            · replace hf := (if_pos c6).symm.trans hf
              refine lv_iinc (v := (x6 + 1)) (lv' := [(6, .int (x6 + 1)), (0, .ref (E.2.1 0)), (1, .int x1), (2, .int x2), (3, .int x3), (4, .int x4), (5, .int x5)]) hx hb dX12_isBetween_124 hl (k := 6) rfl rfl (by decide) rfl (fun ls hl => ?_)
              refine lv_goto (tgt := 6) hx hb dX12_isBetween_127 (by decide) ?_
              exact ih x1 x2 x3 x4 x5 (x6 + 1) _ _ _ hP hS (lv_sub hl [1, 2, 3, 4, 5, 6, 0] rfl) hf
            · replace hf := (if_neg c6).symm.trans hf
              refine lv_iconst (v := 0) hx hb dX12_isBetween_32 (by decide) ?_
              refine lv_istore (lv' := [(7, .int 0), (0, .ref (E.2.1 0)), (1, .int x1), (2, .int x2), (3, .int x3), (4, .int x4), (5, .int x5), (6, .int x6)]) hx hb dX12_isBetween_33 hl (by decide) rfl (fun ls hl => ?_)
              refine lv_iconst (v := 0) hx hb dX12_isBetween_35 (by decide) ?_
              refine lv_istore (lv' := [(8, .int 0), (7, .int 0), (0, .ref (E.2.1 0)), (1, .int x1), (2, .int x2), (3, .int x3), (4, .int x4), (5, .int x5), (6, .int x6)]) hx hb dX12_isBetween_36 hl (by decide) rfl (fun ls hl => ?_)
              exact B38 (f_X12_isBetween_6 g a n) ih fu x1 x2 x3 x4 x6 0 0 _ _ _ hP hS (lv_sub hl [2, 3, 4, 5, 6, 8, 1, 0] rfl) hf
  refine lv_iconst (v := 1) hx hb dX12_isBetween_0 (by decide) ?_
  refine lv_istore (lv' := [(5, .int 1), (0, .ref (E.2.1 0)), (1, .int v1), (2, .int v2), (3, .int v3), (4, .int v4)]) hx hb dX12_isBetween_1 hl (by decide) rfl (fun ls hl => ?_)
  refine lv_iconst (v := 0) hx hb dX12_isBetween_3 (by decide) ?_
  refine lv_istore (lv' := [(6, .int 0), (5, .int 1), (0, .ref (E.2.1 0)), (1, .int v1), (2, .int v2), (3, .int v3), (4, .int v4)]) hx hb dX12_isBetween_4 hl (by decide) rfl (fun ls hl => ?_)
  exact B6 fu v1 v2 v3 v4 1 0 _ _ _ hP hS (lv_sub hl [2, 3, 4, 5, 6, 1, 0] rfl) hf
def f_X12_findsPairs_28 (g : xG) (K2 : xA → Int32 → Option (xA)) : Nat → xA → Int32 → Int32 → Int32 → Int32 → Option (xA)
  | 0, _, _, _, _, _ => none
  | n + 1, a, x1, x2, x3, x4 => (if ((g 0) * (g 0)) ≤ x4 then K2 a (x1 + 1) else (if (g 6) ≤ x2 then K2 a (x1 + 1) else (if (g 6) ≤ x3 then K2 a (x1 + 1) else (if x2 = x3 then K2 a (x1 + 1) else ck (inB x1 36) (ck (nzB (g 0)) (ck (nzB (g 0)) (Option.bind (f_X12_canBoth g a x2 (x4 - x4 / (g 0) * (g 0)) x3 (x4 / (g 0))) (fun u10 => (if u10 = 0 then ck (inB x1 36) (f_X12_findsPairs_28 g K2 n (upA a 13 (upd (a 13) (x1 : Int32).toNatClampNeg ((a 13 (x1 : Int32).toNatClampNeg) ||| 0))) x1 x2 x3 (x4 + 1)) else ck (inB x1 36) (f_X12_findsPairs_28 g K2 n (upA a 13 (upd (a 13) (x1 : Int32).toNatClampNeg ((a 13 (x1 : Int32).toNatClampNeg) ||| ((1 : Int32) <<< (x4 &&& 31))))) x1 x2 x3 (x4 + 1)))))))))))
theorem e_X12_findsPairs_28 (g : xG) (K2 : xA → Int32 → Option (xA)) (n : Nat) (a : xA) (x1 : Int32) (x2 : Int32) (x3 : Int32) (x4 : Int32) : f_X12_findsPairs_28 g K2 (n + 1) a x1 x2 x3 x4 = (if ((g 0) * (g 0)) ≤ x4 then K2 a (x1 + 1) else (if (g 6) ≤ x2 then K2 a (x1 + 1) else (if (g 6) ≤ x3 then K2 a (x1 + 1) else (if x2 = x3 then K2 a (x1 + 1) else ck (inB x1 36) (ck (nzB (g 0)) (ck (nzB (g 0)) (Option.bind (f_X12_canBoth g a x2 (x4 - x4 / (g 0) * (g 0)) x3 (x4 / (g 0))) (fun u10 => (if u10 = 0 then ck (inB x1 36) (f_X12_findsPairs_28 g K2 n (upA a 13 (upd (a 13) (x1 : Int32).toNatClampNeg ((a 13 (x1 : Int32).toNatClampNeg) ||| 0))) x1 x2 x3 (x4 + 1)) else ck (inB x1 36) (f_X12_findsPairs_28 g K2 n (upA a 13 (upd (a 13) (x1 : Int32).toNatClampNeg ((a 13 (x1 : Int32).toNatClampNeg) ||| ((1 : Int32) <<< (x4 &&& 31))))) x1 x2 x3 (x4 + 1))))))))))) := rfl
def f_X12_findsPairs_133 (g : xG) (K117 : xA → Int32 → Option (xA)) (K125 : xA → Int32 → Int32 → Option (xA)) : Nat → xA → Int32 → Int32 → Int32 → Option (xA)
  | 0, _, _, _, _ => none
  | n + 1, a, x1, x2, x3 => (if ((g 0) * (g 0)) ≤ x3 then K125 a x1 (x2 + 1) else ck (inB x2 36) ((if (t_X12_isIn g a (a 13 (x2 : Int32).toNatClampNeg) x3) = 0 then f_X12_findsPairs_133 g K117 K125 n a x1 x2 (x3 + 1) else ck (nzB (g 0)) (ck (nzB (g 0)) (Option.bind (f_X12_isBetween g a (x2 / 6) (x3 - x3 / (g 0) * (g 0)) (x2 - x2 / 6 * 6) (x3 / (g 0))) (fun u22 => (if u22 = 0 then ck (inB x2 36) (ck (inB x2 36) (f_X12_findsPairs_133 g K117 K125 n (upA a 13 (upd (a 13) (x2 : Int32).toNatClampNeg ((a 13 (x2 : Int32).toNatClampNeg) &&& (((1 : Int32) <<< (x3 &&& 31)) ^^^ (-1))))) 1 x2 (x3 + 1))) else f_X12_findsPairs_133 g K117 K125 n a x1 x2 (x3 + 1))))))))
theorem e_X12_findsPairs_133 (g : xG) (K117 : xA → Int32 → Option (xA)) (K125 : xA → Int32 → Int32 → Option (xA)) (n : Nat) (a : xA) (x1 : Int32) (x2 : Int32) (x3 : Int32) : f_X12_findsPairs_133 g K117 K125 (n + 1) a x1 x2 x3 = (if ((g 0) * (g 0)) ≤ x3 then K125 a x1 (x2 + 1) else ck (inB x2 36) ((if (t_X12_isIn g a (a 13 (x2 : Int32).toNatClampNeg) x3) = 0 then f_X12_findsPairs_133 g K117 K125 n a x1 x2 (x3 + 1) else ck (nzB (g 0)) (ck (nzB (g 0)) (Option.bind (f_X12_isBetween g a (x2 / 6) (x3 - x3 / (g 0) * (g 0)) (x2 - x2 / 6 * 6) (x3 / (g 0))) (fun u22 => (if u22 = 0 then ck (inB x2 36) (ck (inB x2 36) (f_X12_findsPairs_133 g K117 K125 n (upA a 13 (upd (a 13) (x2 : Int32).toNatClampNeg ((a 13 (x2 : Int32).toNatClampNeg) &&& (((1 : Int32) <<< (x3 &&& 31)) ^^^ (-1))))) 1 x2 (x3 + 1))) else f_X12_findsPairs_133 g K117 K125 n a x1 x2 (x3 + 1)))))))) := rfl
def f_X12_findsPairs_125 (g : xG) (K117 : xA → Int32 → Option (xA)) : Nat → xA → Int32 → Int32 → Option (xA)
  | 0, _, _, _ => none
  | n + 1, a, x1, x2 => (if 36 ≤ x2 then K117 a x1 else f_X12_findsPairs_133 g K117 (f_X12_findsPairs_125 g K117 n) fu a x1 x2 0)
theorem e_X12_findsPairs_125 (g : xG) (K117 : xA → Int32 → Option (xA)) (n : Nat) (a : xA) (x1 : Int32) (x2 : Int32) : f_X12_findsPairs_125 g K117 (n + 1) a x1 x2 = (if 36 ≤ x2 then K117 a x1 else f_X12_findsPairs_133 g K117 (f_X12_findsPairs_125 g K117 n) fu a x1 x2 0) := rfl
def f_X12_findsPairs_117 (g : xG) : Nat → xA → Int32 → Option (xA)
  | 0, _, _ => none
  | n + 1, a, x1 => (if x1 = 0 then some a else f_X12_findsPairs_125 g (f_X12_findsPairs_117 g n) fu a 0 0)
theorem e_X12_findsPairs_117 (g : xG) (n : Nat) (a : xA) (x1 : Int32) : f_X12_findsPairs_117 g (n + 1) a x1 = (if x1 = 0 then some a else f_X12_findsPairs_125 g (f_X12_findsPairs_117 g n) fu a 0 0) := rfl
def f_X12_findsPairs_2 (g : xG) : Nat → xA → Int32 → Option (xA)
  | 0, _, _ => none
  | n + 1, a, x1 => (if 36 ≤ x1 then f_X12_findsPairs_117 g fu a 1 else ck (inB x1 36) (f_X12_findsPairs_28 g (f_X12_findsPairs_2 g n) fu (upA a 13 (upd (a 13) (x1 : Int32).toNatClampNeg 0)) x1 (x1 / 6) (x1 - x1 / 6 * 6) 0))
theorem e_X12_findsPairs_2 (g : xG) (n : Nat) (a : xA) (x1 : Int32) : f_X12_findsPairs_2 g (n + 1) a x1 = (if 36 ≤ x1 then f_X12_findsPairs_117 g fu a 1 else ck (inB x1 36) (f_X12_findsPairs_28 g (f_X12_findsPairs_2 g n) fu (upA a 13 (upd (a 13) (x1 : Int32).toNatClampNeg 0)) x1 (x1 / 6) (x1 - x1 / 6 * 6) 0)) := rfl
def f_X12_findsPairs (g : xG) (a : xA) : Option (xA) := f_X12_findsPairs_2 g fu a 0
set_option maxRecDepth 100000 in
set_option maxHeartbeats 40000000 in
theorem c_X12_findsPairs (l : Launch) (E : xE) (g : xG) (a : xA) {res : xA} (hf : f_X12_findsPairs g a = some res) : xM l E yX12_findsPairs cX12_findsPairs 5 none 4 104 [.ref (E.2.1 0)] (wM E g a) (xQv E (wM E g res)) := by
  unfold f_X12_findsPairs at hf
  refine xM_of (by decide) (Nat.le_of_ble_eq_true rfl) ?_
  intro p e s m below meth c A hx hb hr hml hts hown hlocks hA hD hP hK hN hS ls hl
  have hw : ∀ w ∈ BW, w.before _ s = true := fun w h => hts w (List.mem_cons_of_mem _ h)
  have C0 : xCtx E p m c cX12_findsPairs 5 s _ RX12 A yX12_findsPairs cX12_findsPairs 5 none := ⟨hx, hb, hml, hown, hts, hA, hK, hN⟩
  have hl : lv_has ls 5 [(0, .ref (E.2.1 0))] := hl
  have B28 : ∀ (K2 : xA → Int32 → Option (xA)) (hK2 : ∀ (a : xA) (x1 : Int32) (H : Heap) (locs : List Loc) (ls : Array Slot), va_P E.1 vwCl (wM E g a) H → va_S A s.heap H locs → lv_has ls 5 [(0, .ref (E.2.1 0)), (1, .int x1)] → K2 a x1 = some res → W p l e ({ frames := 4, cells := 0, slots := 0, locals := 104 }) s m ([.ref (E.2.1 0)] : List Value).toArray below meth c H locs 0 0 (MQ below ((xQv E (wM E g res)) A) ([.ref (E.2.1 0)] : List Value).toArray s 0 0 A) (F0 m 2 ls [])) (n : Nat) (a : xA) (x1 : Int32) (x2 : Int32) (x3 : Int32) (x4 : Int32) (H : Heap) (locs : List Loc) (ls : Array Slot), va_P E.1 vwCl (wM E g a) H → va_S A s.heap H locs → lv_has ls 5 [(0, .ref (E.2.1 0)), (1, .int x1), (2, .int x2), (3, .int x3), (4, .int x4)] → f_X12_findsPairs_28 g K2 n a x1 x2 x3 x4 = some res → W p l e ({ frames := 4, cells := 0, slots := 0, locals := 104 }) s m ([.ref (E.2.1 0)] : List Value).toArray below meth c H locs 0 0 (MQ below ((xQv E (wM E g res)) A) ([.ref (E.2.1 0)] : List Value).toArray s 0 0 A) (F0 m 28 ls []) := by
    intro K2 hK2 n
    induction n with
    | zero => intro a x1 x2 x3 x4 H locs ls hP hS hl hf; exact absurd (show (none : Option (xA)) = some res from hf) (by intro h; cases h)
    | succ n ih =>
      intro a x1 x2 x3 x4 H locs ls hP hS hl hf
      replace hf := (e_X12_findsPairs_28 g K2 n a x1 x2 x3 x4).symm.trans hf
      refine lv_iload hx hb dX12_findsPairs_28 (lv_at hl 4 rfl) ?_
      refine lv_aload_n hx hb dX12_findsPairs_30 rfl (lv_at hl 0 rfl) ?_
      refine va_get (C := RX12) (T := TX12) (N := 22) hx hb hw bfX120 hown hK hP 0 (gm_0 E g a) rfl 0 (by decide) (hw _ bw755) (fun _ h9 => h9) rfl dX12_findsPairs_31 ?_
      refine lv_aload_n hx hb dX12_findsPairs_34 rfl (lv_at hl 0 rfl) ?_
      refine va_get (C := RX12) (T := TX12) (N := 22) hx hb hw bfX120 hown hK hP 0 (gm_0 E g a) rfl 0 (by decide) (hw _ bw755) (fun _ h9 => h9) rfl dX12_findsPairs_35 ?_
      refine lv_imul hx hb dX12_findsPairs_38 ?_
      refine lv_icmp_ge (tgt := 109) hx hb dX12_findsPairs_39 (by decide) (fun c3 => ?_) (fun c3 => ?_)
      · replace hf := (if_pos c3).symm.trans hf
        refine lv_iinc (v := (x1 + 1)) (lv' := [(1, .int (x1 + 1)), (0, .ref (E.2.1 0)), (2, .int x2), (3, .int x3), (4, .int x4)]) hx hb dX12_findsPairs_109 hl (k := 1) rfl rfl (by decide) rfl (fun ls hl => ?_)
        refine lv_goto (tgt := 2) hx hb dX12_findsPairs_112 (by decide) ?_
        exact hK2 a (x1 + 1) _ _ _ hP hS (lv_sub hl [1, 0] rfl) hf
      · replace hf := (if_neg c3).symm.trans hf
        refine lv_iload_n hx hb dX12_findsPairs_42 rfl (lv_at hl 2 rfl) ?_
        refine lv_aload_n hx hb dX12_findsPairs_43 rfl (lv_at hl 0 rfl) ?_
        refine va_get (C := RX12) (T := TX12) (N := 22) hx hb hw bfX120 hown hK hP 0 (gm_0 E g a) rfl 14 (by decide) (hw _ bw764) (fun _ h9 => h9) rfl dX12_findsPairs_44 ?_
        refine lv_icmp_ge (tgt := 109) hx hb dX12_findsPairs_47 (by decide) (fun c4 => ?_) (fun c4 => ?_)
        · replace hf := (if_pos c4).symm.trans hf
          refine lv_iinc (v := (x1 + 1)) (lv' := [(1, .int (x1 + 1)), (0, .ref (E.2.1 0)), (2, .int x2), (3, .int x3), (4, .int x4)]) hx hb dX12_findsPairs_109 hl (k := 1) rfl rfl (by decide) rfl (fun ls hl => ?_)
          refine lv_goto (tgt := 2) hx hb dX12_findsPairs_112 (by decide) ?_
          exact hK2 a (x1 + 1) _ _ _ hP hS (lv_sub hl [1, 0] rfl) hf
        · replace hf := (if_neg c4).symm.trans hf
          refine lv_iload_n hx hb dX12_findsPairs_50 rfl (lv_at hl 3 rfl) ?_
          refine lv_aload_n hx hb dX12_findsPairs_51 rfl (lv_at hl 0 rfl) ?_
          refine va_get (C := RX12) (T := TX12) (N := 22) hx hb hw bfX120 hown hK hP 0 (gm_0 E g a) rfl 14 (by decide) (hw _ bw764) (fun _ h9 => h9) rfl dX12_findsPairs_52 ?_
          refine lv_icmp_ge (tgt := 109) hx hb dX12_findsPairs_55 (by decide) (fun c5 => ?_) (fun c5 => ?_)
          · replace hf := (if_pos c5).symm.trans hf
            refine lv_iinc (v := (x1 + 1)) (lv' := [(1, .int (x1 + 1)), (0, .ref (E.2.1 0)), (2, .int x2), (3, .int x3), (4, .int x4)]) hx hb dX12_findsPairs_109 hl (k := 1) rfl rfl (by decide) rfl (fun ls hl => ?_)
            refine lv_goto (tgt := 2) hx hb dX12_findsPairs_112 (by decide) ?_
            exact hK2 a (x1 + 1) _ _ _ hP hS (lv_sub hl [1, 0] rfl) hf
          · replace hf := (if_neg c5).symm.trans hf
            refine lv_iload_n hx hb dX12_findsPairs_58 rfl (lv_at hl 2 rfl) ?_
            refine lv_iload_n hx hb dX12_findsPairs_59 rfl (lv_at hl 3 rfl) ?_
            refine lv_icmp_eq (tgt := 109) hx hb dX12_findsPairs_60 (by decide) (fun c6 => ?_) (fun c6 => ?_)
            · replace hf := (if_pos c6).symm.trans hf
              refine lv_iinc (v := (x1 + 1)) (lv' := [(1, .int (x1 + 1)), (0, .ref (E.2.1 0)), (2, .int x2), (3, .int x3), (4, .int x4)]) hx hb dX12_findsPairs_109 hl (k := 1) rfl rfl (by decide) rfl (fun ls hl => ?_)
              refine lv_goto (tgt := 2) hx hb dX12_findsPairs_112 (by decide) ?_
              exact hK2 a (x1 + 1) _ _ _ hP hS (lv_sub hl [1, 0] rfl) hf
            · replace hf := (if_neg c6).symm.trans hf
              refine lv_aload_n hx hb dX12_findsPairs_63 rfl (lv_at hl 0 rfl) ?_
              refine va_get (C := RX12) (T := TX12) (N := 22) hx hb hw bfX120 hown hK hP 0 (gm_0 E g a) rfl 20 (by decide) (hw _ bw769) (fun _ h9 => h9) rfl dX12_findsPairs_64 ?_
              refine lv_iload_n hx hb dX12_findsPairs_67 rfl (lv_at hl 1 rfl) ?_
              refine lv_dup2_11 hx hb dX12_findsPairs_68 rfl rfl ?_
              obtain ⟨k7, hf⟩ := ck_some hf
              refine va_iald hx hb hK hP 13 0 (gm_13 E g a) rfl (inB_in k7) dX12_findsPairs_69 ?_
              refine lv_aload_n hx hb dX12_findsPairs_70 rfl (lv_at hl 0 rfl) ?_
              refine lv_iload_n hx hb dX12_findsPairs_71 rfl (lv_at hl 2 rfl) ?_
              refine lv_iload hx hb dX12_findsPairs_72 (lv_at hl 4 rfl) ?_
              refine lv_aload_n hx hb dX12_findsPairs_74 rfl (lv_at hl 0 rfl) ?_
              refine va_get (C := RX12) (T := TX12) (N := 22) hx hb hw bfX120 hown hK hP 0 (gm_0 E g a) rfl 0 (by decide) (hw _ bw755) (fun _ h9 => h9) rfl dX12_findsPairs_75 ?_
              obtain ⟨k8, hf⟩ := ck_some hf
              refine lv_irem hx hb dX12_findsPairs_78 (nzB_nz k8) ?_
              refine lv_iload_n hx hb dX12_findsPairs_79 rfl (lv_at hl 3 rfl) ?_
              refine lv_iload hx hb dX12_findsPairs_80 (lv_at hl 4 rfl) ?_
              refine lv_aload_n hx hb dX12_findsPairs_82 rfl (lv_at hl 0 rfl) ?_
              refine va_get (C := RX12) (T := TX12) (N := 22) hx hb hw bfX120 hown hK hP 0 (gm_0 E g a) rfl 0 (by decide) (hw _ bw755) (fun _ h9 => h9) rfl dX12_findsPairs_83 ?_
              obtain ⟨k9, hf⟩ := ck_some hf
              refine lv_idiv hx hb dX12_findsPairs_86 (nzB_nz k9) ?_
              obtain ⟨u10, e11, hf⟩ := bd_some hf
              refine xci (xRunV (rest := [.int (a 13 (x1 : Int32).toNatClampNeg), .int x1, .ref (E.2.1 13)]) (As := [.int x2, .int (x4 - x4 / (g 0) * (g 0)), .int x3, .int (x4 / (g 0))]) (C := RX12) (k := 4) C0 (c_X12_canBoth l E g a x2 (x4 - x4 / (g 0) * (g 0)) x3 (x4 / (g 0)) e11) bw985 bw987 bw778 bw988 bw989 hd_X12_canBoth ⟨Nat.le_of_ble_eq_true rfl, Nat.le_of_ble_eq_true rfl⟩ hP (wM_D hD) hS (va_recv hK hP (ci := 12) rfl (gm_0 E g a)) rfl hl.1 rfl (Nat.le_of_ble_eq_true rfl) dX12_findsPairs_87 ⟨Nat.zero_le _, Nat.zero_le _⟩) hS (fun H locs hP hS => ?_)
              refine lv_if_eq (tgt := 100) hx hb dX12_findsPairs_90 (by decide) (fun c12 => ?_) (fun c12 => ?_)
              · replace hf := (if_pos c12).symm.trans hf
                refine lv_iconst (v := 0) hx hb dX12_findsPairs_100 (by decide) ?_
                refine lv_ior hx hb dX12_findsPairs_101 ?_
                obtain ⟨k13, hf⟩ := ck_some hf
                refine va_iast hx hb hK hP (wM_D hD) hS 13 0 (gm_13 E g a) rfl (inB_in k13) dX12_findsPairs_102 (fun H locs hP _ hS => ?_)
                have hP := xP_eq (sm_a13 E g a (upd (a 13) (x1 : Int32).toNatClampNeg ((a 13 (x1 : Int32).toNatClampNeg) ||| 0))) hP
                refine lv_iinc (v := (x4 + 1)) (lv' := [(4, .int (x4 + 1)), (0, .ref (E.2.1 0)), (1, .int x1), (2, .int x2), (3, .int x3)]) hx hb dX12_findsPairs_103 hl (k := 4) rfl rfl (by decide) rfl (fun ls hl => ?_)
                refine lv_goto (tgt := 28) hx hb dX12_findsPairs_106 (by decide) ?_
                exact ih (upA a 13 (upd (a 13) (x1 : Int32).toNatClampNeg ((a 13 (x1 : Int32).toNatClampNeg) ||| 0))) x1 x2 x3 (x4 + 1) _ _ _ hP hS (lv_sub hl [1, 2, 3, 4, 0] rfl) hf
              · replace hf := (if_neg c12).symm.trans hf
                refine lv_iconst (v := 1) hx hb dX12_findsPairs_93 (by decide) ?_
                refine lv_iload hx hb dX12_findsPairs_94 (lv_at hl 4 rfl) ?_
                refine lv_ishl hx hb dX12_findsPairs_96 ?_
                refine lv_goto (tgt := 101) hx hb dX12_findsPairs_97 (by decide) ?_
                refine lv_ior hx hb dX12_findsPairs_101 ?_
                obtain ⟨k14, hf⟩ := ck_some hf
                refine va_iast hx hb hK hP (wM_D hD) hS 13 0 (gm_13 E g a) rfl (inB_in k14) dX12_findsPairs_102 (fun H locs hP _ hS => ?_)
                have hP := xP_eq (sm_a13 E g a (upd (a 13) (x1 : Int32).toNatClampNeg ((a 13 (x1 : Int32).toNatClampNeg) ||| ((1 : Int32) <<< (x4 &&& 31))))) hP
                refine lv_iinc (v := (x4 + 1)) (lv' := [(4, .int (x4 + 1)), (0, .ref (E.2.1 0)), (1, .int x1), (2, .int x2), (3, .int x3)]) hx hb dX12_findsPairs_103 hl (k := 4) rfl rfl (by decide) rfl (fun ls hl => ?_)
                refine lv_goto (tgt := 28) hx hb dX12_findsPairs_106 (by decide) ?_
                exact ih (upA a 13 (upd (a 13) (x1 : Int32).toNatClampNeg ((a 13 (x1 : Int32).toNatClampNeg) ||| ((1 : Int32) <<< (x4 &&& 31))))) x1 x2 x3 (x4 + 1) _ _ _ hP hS (lv_sub hl [1, 2, 3, 4, 0] rfl) hf
  have B133 : ∀ (K117 : xA → Int32 → Option (xA)) (hK117 : ∀ (a : xA) (x1 : Int32) (H : Heap) (locs : List Loc) (ls : Array Slot), va_P E.1 vwCl (wM E g a) H → va_S A s.heap H locs → lv_has ls 5 [(0, .ref (E.2.1 0)), (1, .int x1)] → K117 a x1 = some res → W p l e ({ frames := 4, cells := 0, slots := 0, locals := 104 }) s m ([.ref (E.2.1 0)] : List Value).toArray below meth c H locs 0 0 (MQ below ((xQv E (wM E g res)) A) ([.ref (E.2.1 0)] : List Value).toArray s 0 0 A) (F0 m 117 ls [])) (K125 : xA → Int32 → Int32 → Option (xA)) (hK125 : ∀ (a : xA) (x1 : Int32) (x2 : Int32) (H : Heap) (locs : List Loc) (ls : Array Slot), va_P E.1 vwCl (wM E g a) H → va_S A s.heap H locs → lv_has ls 5 [(0, .ref (E.2.1 0)), (1, .int x1), (2, .int x2)] → K125 a x1 x2 = some res → W p l e ({ frames := 4, cells := 0, slots := 0, locals := 104 }) s m ([.ref (E.2.1 0)] : List Value).toArray below meth c H locs 0 0 (MQ below ((xQv E (wM E g res)) A) ([.ref (E.2.1 0)] : List Value).toArray s 0 0 A) (F0 m 125 ls [])) (n : Nat) (a : xA) (x1 : Int32) (x2 : Int32) (x3 : Int32) (H : Heap) (locs : List Loc) (ls : Array Slot), va_P E.1 vwCl (wM E g a) H → va_S A s.heap H locs → lv_has ls 5 [(0, .ref (E.2.1 0)), (1, .int x1), (2, .int x2), (3, .int x3)] → f_X12_findsPairs_133 g K117 K125 n a x1 x2 x3 = some res → W p l e ({ frames := 4, cells := 0, slots := 0, locals := 104 }) s m ([.ref (E.2.1 0)] : List Value).toArray below meth c H locs 0 0 (MQ below ((xQv E (wM E g res)) A) ([.ref (E.2.1 0)] : List Value).toArray s 0 0 A) (F0 m 133 ls []) := by
    intro K117 hK117 K125 hK125 n
    induction n with
    | zero => intro a x1 x2 x3 H locs ls hP hS hl hf; exact absurd (show (none : Option (xA)) = some res from hf) (by intro h; cases h)
    | succ n ih =>
      intro a x1 x2 x3 H locs ls hP hS hl hf
      replace hf := (e_X12_findsPairs_133 g K117 K125 n a x1 x2 x3).symm.trans hf
      refine lv_iload_n hx hb dX12_findsPairs_133 rfl (lv_at hl 3 rfl) ?_
      refine lv_aload_n hx hb dX12_findsPairs_134 rfl (lv_at hl 0 rfl) ?_
      refine va_get (C := RX12) (T := TX12) (N := 22) hx hb hw bfX120 hown hK hP 0 (gm_0 E g a) rfl 0 (by decide) (hw _ bw755) (fun _ h9 => h9) rfl dX12_findsPairs_135 ?_
      refine lv_aload_n hx hb dX12_findsPairs_138 rfl (lv_at hl 0 rfl) ?_
      refine va_get (C := RX12) (T := TX12) (N := 22) hx hb hw bfX120 hown hK hP 0 (gm_0 E g a) rfl 0 (by decide) (hw _ bw755) (fun _ h9 => h9) rfl dX12_findsPairs_139 ?_
      refine lv_imul hx hb dX12_findsPairs_142 ?_
      refine lv_icmp_ge (tgt := 208) hx hb dX12_findsPairs_143 (by decide) (fun c17 => ?_) (fun c17 => ?_)
      · replace hf := (if_pos c17).symm.trans hf
        refine lv_iinc (v := (x2 + 1)) (lv' := [(2, .int (x2 + 1)), (0, .ref (E.2.1 0)), (1, .int x1), (3, .int x3)]) hx hb dX12_findsPairs_208 hl (k := 2) rfl rfl (by decide) rfl (fun ls hl => ?_)
        refine lv_goto (tgt := 125) hx hb dX12_findsPairs_211 (by decide) ?_
        exact hK125 a x1 (x2 + 1) _ _ _ hP hS (lv_sub hl [1, 2, 0] rfl) hf
      · replace hf := (if_neg c17).symm.trans hf
        refine lv_aload_n hx hb dX12_findsPairs_146 rfl (lv_at hl 0 rfl) ?_
        refine va_get (C := RX12) (T := TX12) (N := 22) hx hb hw bfX120 hown hK hP 0 (gm_0 E g a) rfl 20 (by decide) (hw _ bw769) (fun _ h9 => h9) rfl dX12_findsPairs_147 ?_
        refine lv_iload_n hx hb dX12_findsPairs_150 rfl (lv_at hl 2 rfl) ?_
        obtain ⟨k18, hf⟩ := ck_some hf
        refine va_iald hx hb hK hP 13 0 (gm_13 E g a) rfl (inB_in k18) dX12_findsPairs_151 ?_
        refine lv_iload_n hx hb dX12_findsPairs_152 rfl (lv_at hl 3 rfl) ?_
        refine xci (xRunS (rest := []) (As := [.int (a 13 (x2 : Int32).toNatClampNeg), .int x3]) (k := 2) C0 (c_X12_isIn l E g a (a 13 (x2 : Int32).toNatClampNeg) x3) bw779 bw793 bw778 bw794 hd_X12_isIn ⟨Nat.le_of_ble_eq_true rfl, Nat.le_of_ble_eq_true rfl⟩ hP (wM_D hD) hS rfl hl.1 rfl (Nat.le_of_ble_eq_true rfl) dX12_findsPairs_153 ⟨Nat.zero_le _, Nat.zero_le _⟩) hS (fun H locs hP hS => ?_)
        refine lv_if_eq (tgt := 202) hx hb dX12_findsPairs_156 (by decide) (fun c19 => ?_) (fun c19 => ?_)
        · replace hf := (if_pos c19).symm.trans hf
          refine lv_iinc (v := (x3 + 1)) (lv' := [(3, .int (x3 + 1)), (0, .ref (E.2.1 0)), (1, .int x1), (2, .int x2)]) hx hb dX12_findsPairs_202 hl (k := 3) rfl rfl (by decide) rfl (fun ls hl => ?_)
          refine lv_goto (tgt := 133) hx hb dX12_findsPairs_205 (by decide) ?_
          exact ih a x1 x2 (x3 + 1) _ _ _ hP hS (lv_sub hl [1, 2, 3, 0] rfl) hf
        · replace hf := (if_neg c19).symm.trans hf
          refine lv_aload_n hx hb dX12_findsPairs_159 rfl (lv_at hl 0 rfl) ?_
          refine lv_iload_n hx hb dX12_findsPairs_160 rfl (lv_at hl 2 rfl) ?_
          refine lv_bipush (v := 6) hx hb dX12_findsPairs_161 (by decide) ?_
          refine lv_idiv hx hb dX12_findsPairs_163 (by decide) ?_
          refine lv_iload_n hx hb dX12_findsPairs_164 rfl (lv_at hl 3 rfl) ?_
          refine lv_aload_n hx hb dX12_findsPairs_165 rfl (lv_at hl 0 rfl) ?_
          refine va_get (C := RX12) (T := TX12) (N := 22) hx hb hw bfX120 hown hK hP 0 (gm_0 E g a) rfl 0 (by decide) (hw _ bw755) (fun _ h9 => h9) rfl dX12_findsPairs_166 ?_
          obtain ⟨k20, hf⟩ := ck_some hf
          refine lv_irem hx hb dX12_findsPairs_169 (nzB_nz k20) ?_
          refine lv_iload_n hx hb dX12_findsPairs_170 rfl (lv_at hl 2 rfl) ?_
          refine lv_bipush (v := 6) hx hb dX12_findsPairs_171 (by decide) ?_
          refine lv_irem hx hb dX12_findsPairs_173 (by decide) ?_
          refine lv_iload_n hx hb dX12_findsPairs_174 rfl (lv_at hl 3 rfl) ?_
          refine lv_aload_n hx hb dX12_findsPairs_175 rfl (lv_at hl 0 rfl) ?_
          refine va_get (C := RX12) (T := TX12) (N := 22) hx hb hw bfX120 hown hK hP 0 (gm_0 E g a) rfl 0 (by decide) (hw _ bw755) (fun _ h9 => h9) rfl dX12_findsPairs_176 ?_
          obtain ⟨k21, hf⟩ := ck_some hf
          refine lv_idiv hx hb dX12_findsPairs_179 (nzB_nz k21) ?_
          obtain ⟨u22, e23, hf⟩ := bd_some hf
          refine xci (xRunV (rest := []) (As := [.int (x2 / 6), .int (x3 - x3 / (g 0) * (g 0)), .int (x2 - x2 / 6 * 6), .int (x3 / (g 0))]) (C := RX12) (k := 4) C0 (c_X12_isBetween l E g a (x2 / 6) (x3 - x3 / (g 0) * (g 0)) (x2 - x2 / 6 * 6) (x3 / (g 0)) e23) bw986 bw990 bw778 bw991 bw992 hd_X12_isBetween ⟨Nat.le_of_ble_eq_true rfl, Nat.le_of_ble_eq_true rfl⟩ hP (wM_D hD) hS (va_recv hK hP (ci := 12) rfl (gm_0 E g a)) rfl hl.1 rfl (Nat.le_of_ble_eq_true rfl) dX12_findsPairs_180 ⟨Nat.zero_le _, Nat.zero_le _⟩) hS (fun H locs hP hS => ?_)
          refine lv_if_ne (tgt := 202) hx hb dX12_findsPairs_183 (by decide) (fun c24 => ?_) (fun c24 => ?_)
          · replace hf := (if_neg c24).symm.trans hf
            refine lv_iinc (v := (x3 + 1)) (lv' := [(3, .int (x3 + 1)), (0, .ref (E.2.1 0)), (1, .int x1), (2, .int x2)]) hx hb dX12_findsPairs_202 hl (k := 3) rfl rfl (by decide) rfl (fun ls hl => ?_)
            refine lv_goto (tgt := 133) hx hb dX12_findsPairs_205 (by decide) ?_
            exact ih a x1 x2 (x3 + 1) _ _ _ hP hS (lv_sub hl [1, 2, 3, 0] rfl) hf
          · replace hf := (if_pos c24).symm.trans hf
            refine lv_aload_n hx hb dX12_findsPairs_186 rfl (lv_at hl 0 rfl) ?_
            refine va_get (C := RX12) (T := TX12) (N := 22) hx hb hw bfX120 hown hK hP 0 (gm_0 E g a) rfl 20 (by decide) (hw _ bw769) (fun _ h9 => h9) rfl dX12_findsPairs_187 ?_
            refine lv_iload_n hx hb dX12_findsPairs_190 rfl (lv_at hl 2 rfl) ?_
            refine lv_dup2_11 hx hb dX12_findsPairs_191 rfl rfl ?_
            obtain ⟨k25, hf⟩ := ck_some hf
            refine va_iald hx hb hK hP 13 0 (gm_13 E g a) rfl (inB_in k25) dX12_findsPairs_192 ?_
            refine lv_iconst (v := 1) hx hb dX12_findsPairs_193 (by decide) ?_
            refine lv_iload_n hx hb dX12_findsPairs_194 rfl (lv_at hl 3 rfl) ?_
            refine lv_ishl hx hb dX12_findsPairs_195 ?_
            refine lv_iconst (v := (-1)) hx hb dX12_findsPairs_196 (by decide) ?_
            refine lv_ixor hx hb dX12_findsPairs_197 ?_
            refine lv_iand hx hb dX12_findsPairs_198 ?_
            obtain ⟨k26, hf⟩ := ck_some hf
            refine va_iast hx hb hK hP (wM_D hD) hS 13 0 (gm_13 E g a) rfl (inB_in k26) dX12_findsPairs_199 (fun H locs hP _ hS => ?_)
            have hP := xP_eq (sm_a13 E g a (upd (a 13) (x2 : Int32).toNatClampNeg ((a 13 (x2 : Int32).toNatClampNeg) &&& (((1 : Int32) <<< (x3 &&& 31)) ^^^ (-1))))) hP
            refine lv_iconst (v := 1) hx hb dX12_findsPairs_200 (by decide) ?_
            refine lv_istore_n (lv' := [(1, .int 1), (0, .ref (E.2.1 0)), (2, .int x2), (3, .int x3)]) hx hb dX12_findsPairs_201 rfl hl (by decide) rfl (fun ls hl => ?_)
            refine lv_iinc (v := (x3 + 1)) (lv' := [(3, .int (x3 + 1)), (1, .int 1), (0, .ref (E.2.1 0)), (2, .int x2)]) hx hb dX12_findsPairs_202 hl (k := 3) rfl rfl (by decide) rfl (fun ls hl => ?_)
            refine lv_goto (tgt := 133) hx hb dX12_findsPairs_205 (by decide) ?_
            exact ih (upA a 13 (upd (a 13) (x2 : Int32).toNatClampNeg ((a 13 (x2 : Int32).toNatClampNeg) &&& (((1 : Int32) <<< (x3 &&& 31)) ^^^ (-1))))) 1 x2 (x3 + 1) _ _ _ hP hS (lv_sub hl [2, 1, 3, 0] rfl) hf
  have B125 : ∀ (K117 : xA → Int32 → Option (xA)) (hK117 : ∀ (a : xA) (x1 : Int32) (H : Heap) (locs : List Loc) (ls : Array Slot), va_P E.1 vwCl (wM E g a) H → va_S A s.heap H locs → lv_has ls 5 [(0, .ref (E.2.1 0)), (1, .int x1)] → K117 a x1 = some res → W p l e ({ frames := 4, cells := 0, slots := 0, locals := 104 }) s m ([.ref (E.2.1 0)] : List Value).toArray below meth c H locs 0 0 (MQ below ((xQv E (wM E g res)) A) ([.ref (E.2.1 0)] : List Value).toArray s 0 0 A) (F0 m 117 ls [])) (n : Nat) (a : xA) (x1 : Int32) (x2 : Int32) (H : Heap) (locs : List Loc) (ls : Array Slot), va_P E.1 vwCl (wM E g a) H → va_S A s.heap H locs → lv_has ls 5 [(0, .ref (E.2.1 0)), (1, .int x1), (2, .int x2)] → f_X12_findsPairs_125 g K117 n a x1 x2 = some res → W p l e ({ frames := 4, cells := 0, slots := 0, locals := 104 }) s m ([.ref (E.2.1 0)] : List Value).toArray below meth c H locs 0 0 (MQ below ((xQv E (wM E g res)) A) ([.ref (E.2.1 0)] : List Value).toArray s 0 0 A) (F0 m 125 ls []) := by
    intro K117 hK117 n
    induction n with
    | zero => intro a x1 x2 H locs ls hP hS hl hf; exact absurd (show (none : Option (xA)) = some res from hf) (by intro h; cases h)
    | succ n ih =>
      intro a x1 x2 H locs ls hP hS hl hf
      replace hf := (e_X12_findsPairs_125 g K117 n a x1 x2).symm.trans hf
      refine lv_iload_n hx hb dX12_findsPairs_125 rfl (lv_at hl 2 rfl) ?_
      refine lv_bipush (v := 36) hx hb dX12_findsPairs_126 (by decide) ?_
      refine lv_icmp_ge (tgt := 214) hx hb dX12_findsPairs_128 (by decide) (fun c16 => ?_) (fun c16 => ?_)
      · replace hf := (if_pos c16).symm.trans hf
        refine lv_goto (tgt := 117) hx hb dX12_findsPairs_214 (by decide) ?_
        exact hK117 a x1 _ _ _ hP hS (lv_sub hl [0, 1] rfl) hf
      · replace hf := (if_neg c16).symm.trans hf
        refine lv_iconst (v := 0) hx hb dX12_findsPairs_131 (by decide) ?_
        refine lv_istore_n (lv' := [(3, .int 0), (0, .ref (E.2.1 0)), (1, .int x1), (2, .int x2)]) hx hb dX12_findsPairs_132 rfl hl (by decide) rfl (fun ls hl => ?_)
        exact B133 K117 hK117 (f_X12_findsPairs_125 g K117 n) ih fu a x1 x2 0 _ _ _ hP hS (lv_sub hl [1, 2, 3, 0] rfl) hf
  have B117 : ∀ (n : Nat) (a : xA) (x1 : Int32) (H : Heap) (locs : List Loc) (ls : Array Slot), va_P E.1 vwCl (wM E g a) H → va_S A s.heap H locs → lv_has ls 5 [(0, .ref (E.2.1 0)), (1, .int x1)] → f_X12_findsPairs_117 g n a x1 = some res → W p l e ({ frames := 4, cells := 0, slots := 0, locals := 104 }) s m ([.ref (E.2.1 0)] : List Value).toArray below meth c H locs 0 0 (MQ below ((xQv E (wM E g res)) A) ([.ref (E.2.1 0)] : List Value).toArray s 0 0 A) (F0 m 117 ls []) := by
    intro n
    induction n with
    | zero => intro a x1 H locs ls hP hS hl hf; exact absurd (show (none : Option (xA)) = some res from hf) (by intro h; cases h)
    | succ n ih =>
      intro a x1 H locs ls hP hS hl hf
      replace hf := (e_X12_findsPairs_117 g n a x1).symm.trans hf
      refine lv_iload_n hx hb dX12_findsPairs_117 rfl (lv_at hl 1 rfl) ?_
      refine lv_if_eq (tgt := 217) hx hb dX12_findsPairs_118 (by decide) (fun c15 => ?_) (fun c15 => ?_)
      · replace hf := (if_pos c15).symm.trans hf
        exact xv_retS (fw := (fun r => wM E g r)) hx hb hr hlocks (Option.some.inj hf) hP hS dX12_findsPairs_217
      · replace hf := (if_neg c15).symm.trans hf
        refine lv_iconst (v := 0) hx hb dX12_findsPairs_121 (by decide) ?_
        refine lv_istore_n (lv' := [(1, .int 0), (0, .ref (E.2.1 0))]) hx hb dX12_findsPairs_122 rfl hl (by decide) rfl (fun ls hl => ?_)
        refine lv_iconst (v := 0) hx hb dX12_findsPairs_123 (by decide) ?_
        refine lv_istore_n (lv' := [(2, .int 0), (1, .int 0), (0, .ref (E.2.1 0))]) hx hb dX12_findsPairs_124 rfl hl (by decide) rfl (fun ls hl => ?_)
        exact B125 (f_X12_findsPairs_117 g n) ih fu a 0 0 _ _ _ hP hS (lv_sub hl [2, 1, 0] rfl) hf
  have B2 : ∀ (n : Nat) (a : xA) (x1 : Int32) (H : Heap) (locs : List Loc) (ls : Array Slot), va_P E.1 vwCl (wM E g a) H → va_S A s.heap H locs → lv_has ls 5 [(0, .ref (E.2.1 0)), (1, .int x1)] → f_X12_findsPairs_2 g n a x1 = some res → W p l e ({ frames := 4, cells := 0, slots := 0, locals := 104 }) s m ([.ref (E.2.1 0)] : List Value).toArray below meth c H locs 0 0 (MQ below ((xQv E (wM E g res)) A) ([.ref (E.2.1 0)] : List Value).toArray s 0 0 A) (F0 m 2 ls []) := by
    intro n
    induction n with
    | zero => intro a x1 H locs ls hP hS hl hf; exact absurd (show (none : Option (xA)) = some res from hf) (by intro h; cases h)
    | succ n ih =>
      intro a x1 H locs ls hP hS hl hf
      replace hf := (e_X12_findsPairs_2 g n a x1).symm.trans hf
      refine lv_iload_n hx hb dX12_findsPairs_2 rfl (lv_at hl 1 rfl) ?_
      refine lv_bipush (v := 36) hx hb dX12_findsPairs_3 (by decide) ?_
      refine lv_icmp_ge (tgt := 115) hx hb dX12_findsPairs_5 (by decide) (fun c1 => ?_) (fun c1 => ?_)
      · replace hf := (if_pos c1).symm.trans hf
        refine lv_iconst (v := 1) hx hb dX12_findsPairs_115 (by decide) ?_
        refine lv_istore_n (lv' := [(1, .int 1), (0, .ref (E.2.1 0))]) hx hb dX12_findsPairs_116 rfl hl (by decide) rfl (fun ls hl => ?_)
        exact B117 fu a 1 _ _ _ hP hS (lv_sub hl [1, 0] rfl) hf
      · replace hf := (if_neg c1).symm.trans hf
        refine lv_iload_n hx hb dX12_findsPairs_8 rfl (lv_at hl 1 rfl) ?_
        refine lv_bipush (v := 6) hx hb dX12_findsPairs_9 (by decide) ?_
        refine lv_idiv hx hb dX12_findsPairs_11 (by decide) ?_
        refine lv_istore_n (lv' := [(2, .int (x1 / 6)), (0, .ref (E.2.1 0)), (1, .int x1)]) hx hb dX12_findsPairs_12 rfl hl (by decide) rfl (fun ls hl => ?_)
        refine lv_iload_n hx hb dX12_findsPairs_13 rfl (lv_at hl 2 rfl) ?_
        refine lv_bipush (v := 6) hx hb dX12_findsPairs_14 (by decide) ?_
        refine lv_irem hx hb dX12_findsPairs_16 (by decide) ?_
        refine lv_istore_n (lv' := [(3, .int (x1 - x1 / 6 * 6)), (2, .int (x1 / 6)), (0, .ref (E.2.1 0)), (1, .int x1)]) hx hb dX12_findsPairs_17 rfl hl (by decide) rfl (fun ls hl => ?_)
        refine lv_aload_n hx hb dX12_findsPairs_18 rfl (lv_at hl 2 rfl) ?_
        refine va_get (C := RX12) (T := TX12) (N := 22) hx hb hw bfX120 hown hK hP 0 (gm_0 E g a) rfl 20 (by decide) (hw _ bw769) (fun _ h9 => h9) rfl dX12_findsPairs_19 ?_
        refine lv_iload_n hx hb dX12_findsPairs_22 rfl (lv_at hl 3 rfl) ?_
        refine lv_iconst (v := 0) hx hb dX12_findsPairs_23 (by decide) ?_
        obtain ⟨k2, hf⟩ := ck_some hf
        refine va_iast hx hb hK hP (wM_D hD) hS 13 0 (gm_13 E g a) rfl (inB_in k2) dX12_findsPairs_24 (fun H locs hP _ hS => ?_)
        have hP := xP_eq (sm_a13 E g a (upd (a 13) (x1 : Int32).toNatClampNeg 0)) hP
        refine lv_iconst (v := 0) hx hb dX12_findsPairs_25 (by decide) ?_
        refine lv_istore (lv' := [(4, .int 0), (3, .int (x1 - x1 / 6 * 6)), (2, .int (x1 / 6)), (0, .ref (E.2.1 0)), (1, .int x1)]) hx hb dX12_findsPairs_26 hl (by decide) rfl (fun ls hl => ?_)
        exact B28 (f_X12_findsPairs_2 g n) ih fu (upA a 13 (upd (a 13) (x1 : Int32).toNatClampNeg 0)) x1 (x1 / 6) (x1 - x1 / 6 * 6) 0 _ _ _ hP hS (lv_sub hl [3, 4, 2, 1, 0] rfl) hf
  refine lv_iconst (v := 0) hx hb dX12_findsPairs_0 (by decide) ?_
  refine lv_istore_n (lv' := [(1, .int 0), (0, .ref (E.2.1 0))]) hx hb dX12_findsPairs_1 rfl hl (by decide) rfl (fun ls hl => ?_)
  exact B2 fu a 0 _ _ _ hP hS (lv_sub hl [1, 0] rfl) hf
def f_X12_pairs_53 (g : xG) (a : xA) (x1 : Int32) (x2 : Int32) (s0 : Int32) : Option (Int32 × xG × xA) := (if ((upd g 8 s0) 8) ≤ 0 then Option.bind (f_X12_findsPairs (upd g 8 s0) a) (fun u6 => ck (inB ((6 * x1) + x2) 36) (some ((u6 13 (((6 * x1) + x2) : Int32).toNatClampNeg), (upd g 8 s0), u6))) else some (0, (upd g 8 s0), a))
def f_X12_pairs_33 (g : xG) (a : xA) (x1 : Int32) (x2 : Int32) (s0 : Int32) : Option (Int32 × xG × xA) := (if s0 = 0 then f_X12_pairs_53 g a x1 x2 1 else (if x1 = x2 then f_X12_pairs_53 g a x1 x2 2 else f_X12_pairs_53 g a x1 x2 0))
def f_X12_pairs (g : xG) (a : xA) (v1 : Int32) (v2 : Int32) : Option (Int32 × xG × xA) := (if (t_X12_in g a v1 0 ((g 6) - 1)) = 0 then f_X12_pairs_33 g a v1 v2 0 else (if (t_X12_in g a v2 0 ((g 6) - 1)) = 0 then f_X12_pairs_33 g a v1 v2 0 else f_X12_pairs_33 g a v1 v2 1))
set_option maxRecDepth 100000 in
set_option maxHeartbeats 40000000 in
theorem c_X12_pairs (l : Launch) (E : xE) (g : xG) (a : xA) (v1 : Int32) (v2 : Int32) {res : Int32 × xG × xA} (hf : f_X12_pairs g a v1 v2 = some res) : xM l E yX12_pairs cX12_pairs 4 (some .int) 5 128 [.ref (E.2.1 0), .int v1, .int v2] (wM E g a) (xQi E res.1 (wM E res.2.1 res.2.2)) := by
  unfold f_X12_pairs at hf
  refine xM_of (by decide) (Nat.le_of_ble_eq_true rfl) ?_
  intro p e s m below meth c A hx hb hr hml hts hown hlocks hA hD hP hK hN hS ls hl
  have hw : ∀ w ∈ BW, w.before _ s = true := fun w h => hts w (List.mem_cons_of_mem _ h)
  have C0 : xCtx E p m c cX12_pairs 4 s _ RX12 A yX12_pairs cX12_pairs 4 (some .int) := ⟨hx, hb, hml, hown, hts, hA, hK, hN⟩
  have hl : lv_has ls 4 [(0, .ref (E.2.1 0)), (1, .int v1), (2, .int v2)] := hl
  have B53 : ∀ (g : xG) (a : xA) (x1 : Int32) (x2 : Int32) (s0 : Int32) (H : Heap) (locs : List Loc) (ls : Array Slot), va_P E.1 vwCl (wM E g a) H → va_S A s.heap H locs → lv_has ls 4 [(0, .ref (E.2.1 0)), (1, .int x1), (2, .int x2)] → f_X12_pairs_53 g a x1 x2 s0 = some res → W p l e ({ frames := 5, cells := 0, slots := 0, locals := 128 }) s m ([.ref (E.2.1 0), .int v1, .int v2] : List Value).toArray below meth c H locs 0 0 (MQ below ((xQi E res.1 (wM E res.2.1 res.2.2)) A) ([.ref (E.2.1 0), .int v1, .int v2] : List Value).toArray s 0 0 A) (F0 m 53 ls [.int s0, .ref (E.2.1 0)]) := by
    intro g a x1 x2 s0 H locs ls hP hS hl hf
    unfold f_X12_pairs_53 at hf
    refine va_put (v := .int s0) (ty := .int) (C := RX12) (T := TX12) (N := 22) hx hb hw bfX120 tyX12 tyX12_ok nmX12 hown hK hP (wM_D hD) hS 0 (gm_0 E g a) rfl 21 (by decide) (hw _ bw771) (fun _ h9 => h9) rfl (by decide +kernel) rfl rfl (Nat.le_of_ble_eq_true rfl) dX12_pairs_53 (fun H locs hP _ hS => ?_)
    have hP := xP_eq (sm_g8 E g a s0) hP
    refine lv_aload_n hx hb dX12_pairs_56 rfl (lv_at hl 0 rfl) ?_
    refine va_get (C := RX12) (T := TX12) (N := 22) hx hb hw bfX120 hown hK hP 0 (gm_0 E (upd g 8 s0) a) rfl 21 (by decide) (hw _ bw771) (fun _ h9 => h9) rfl dX12_pairs_57 ?_
    refine lv_if_le (tgt := 65) hx hb dX12_pairs_60 (by decide) (fun c5 => ?_) (fun c5 => ?_)
    · replace hf := (if_pos c5).symm.trans hf
      refine lv_aload_n hx hb dX12_pairs_65 rfl (lv_at hl 0 rfl) ?_
      obtain ⟨u6, e7, hf⟩ := bd_some hf
      refine xcv (xRunV (rest := []) (As := []) (C := RX12) (k := 0) C0 (c_X12_findsPairs l E (upd g 8 s0) a e7) bw993 bw994 bw778 bw995 bw996 hd_X12_findsPairs ⟨Nat.le_of_ble_eq_true rfl, Nat.le_of_ble_eq_true rfl⟩ hP (wM_D hD) hS (va_recv hK hP (ci := 12) rfl (gm_0 E (upd g 8 s0) a)) rfl hl.1 rfl (Nat.le_of_ble_eq_true rfl) dX12_pairs_66 ⟨Nat.zero_le _, Nat.zero_le _⟩) hS (fun H locs hP hS => ?_)
      refine lv_aload_n hx hb dX12_pairs_69 rfl (lv_at hl 0 rfl) ?_
      refine va_get (C := RX12) (T := TX12) (N := 22) hx hb hw bfX120 hown hK hP 0 (gm_0 E (upd g 8 s0) u6) rfl 20 (by decide) (hw _ bw769) (fun _ h9 => h9) rfl dX12_pairs_70 ?_
      refine lv_bipush (v := 6) hx hb dX12_pairs_73 (by decide) ?_
      refine lv_iload_n hx hb dX12_pairs_75 rfl (lv_at hl 1 rfl) ?_
      refine lv_imul hx hb dX12_pairs_76 ?_
      refine lv_iload_n hx hb dX12_pairs_77 rfl (lv_at hl 2 rfl) ?_
      refine lv_iadd hx hb dX12_pairs_78 ?_
      obtain ⟨k8, hf⟩ := ck_some hf
      refine va_iald hx hb hK hP 13 0 (gm_13 E (upd g 8 s0) u6) rfl (inB_in k8) dX12_pairs_79 ?_
      exact xi_retS (fr := (fun r => r.1)) (fw := (fun r => wM E r.2.1 r.2.2)) hx hb hr hlocks (Option.some.inj hf) hP hS dX12_pairs_80
    · replace hf := (if_neg c5).symm.trans hf
      refine lv_iconst (v := 0) hx hb dX12_pairs_63 (by decide) ?_
      exact xi_retS (fr := (fun r => r.1)) (fw := (fun r => wM E r.2.1 r.2.2)) hx hb hr hlocks (Option.some.inj hf) hP hS dX12_pairs_64
  have B33 : ∀ (g : xG) (a : xA) (x1 : Int32) (x2 : Int32) (s0 : Int32) (H : Heap) (locs : List Loc) (ls : Array Slot), va_P E.1 vwCl (wM E g a) H → va_S A s.heap H locs → lv_has ls 4 [(0, .ref (E.2.1 0)), (1, .int x1), (2, .int x2)] → f_X12_pairs_33 g a x1 x2 s0 = some res → W p l e ({ frames := 5, cells := 0, slots := 0, locals := 128 }) s m ([.ref (E.2.1 0), .int v1, .int v2] : List Value).toArray below meth c H locs 0 0 (MQ below ((xQi E res.1 (wM E res.2.1 res.2.2)) A) ([.ref (E.2.1 0), .int v1, .int v2] : List Value).toArray s 0 0 A) (F0 m 33 ls [.int s0]) := by
    intro g a x1 x2 s0 H locs ls hP hS hl hf
    unfold f_X12_pairs_33 at hf
    refine lv_istore_n (lv' := [(3, .int s0), (0, .ref (E.2.1 0)), (1, .int x1), (2, .int x2)]) hx hb dX12_pairs_33 rfl hl (by decide) rfl (fun ls hl => ?_)
    refine lv_aload_n hx hb dX12_pairs_34 rfl (lv_at hl 1 rfl) ?_
    refine lv_iload_n hx hb dX12_pairs_35 rfl (lv_at hl 0 rfl) ?_
    refine lv_if_ne (tgt := 43) hx hb dX12_pairs_36 (by decide) (fun c3 => ?_) (fun c3 => ?_)
    · replace hf := (if_neg c3).symm.trans hf
      refine lv_iload_n hx hb dX12_pairs_43 rfl (lv_at hl 2 rfl) ?_
      refine lv_iload_n hx hb dX12_pairs_44 rfl (lv_at hl 3 rfl) ?_
      refine lv_icmp_ne (tgt := 52) hx hb dX12_pairs_45 (by decide) (fun c4 => ?_) (fun c4 => ?_)
      · replace hf := (if_neg c4).symm.trans hf
        refine lv_iconst (v := 0) hx hb dX12_pairs_52 (by decide) ?_
        exact B53 g a x1 x2 0 _ _ _ hP hS (lv_sub hl [1, 2, 3] rfl) hf
      · replace hf := (if_pos c4).symm.trans hf
        refine lv_iconst (v := 2) hx hb dX12_pairs_48 (by decide) ?_
        refine lv_goto (tgt := 53) hx hb dX12_pairs_49 (by decide) ?_
        exact B53 g a x1 x2 2 _ _ _ hP hS (lv_sub hl [1, 2, 3] rfl) hf
    · replace hf := (if_pos c3).symm.trans hf
      refine lv_iconst (v := 1) hx hb dX12_pairs_39 (by decide) ?_
      refine lv_goto (tgt := 53) hx hb dX12_pairs_40 (by decide) ?_
      exact B53 g a x1 x2 1 _ _ _ hP hS (lv_sub hl [1, 2, 3] rfl) hf
  refine lv_iload_n hx hb dX12_pairs_0 rfl (lv_at hl 1 rfl) ?_
  refine lv_iconst (v := 0) hx hb dX12_pairs_1 (by decide) ?_
  refine lv_aload_n hx hb dX12_pairs_2 rfl (lv_at hl 0 rfl) ?_
  refine va_get (C := RX12) (T := TX12) (N := 22) hx hb hw bfX120 hown hK hP 0 (gm_0 E g a) rfl 14 (by decide) (hw _ bw764) (fun _ h9 => h9) rfl dX12_pairs_3 ?_
  refine lv_iconst (v := 1) hx hb dX12_pairs_6 (by decide) ?_
  refine lv_isub hx hb dX12_pairs_7 ?_
  refine xci (xRunS (rest := []) (As := [.int v1, .int 0, .int ((g 6) - 1)]) (k := 3) C0 (c_X12_in l E g a v1 0 ((g 6) - 1)) bw772 bw785 bw778 bw786 hd_X12_in ⟨Nat.le_of_ble_eq_true rfl, Nat.le_of_ble_eq_true rfl⟩ hP (wM_D hD) hS rfl hl.1 rfl (Nat.le_of_ble_eq_true rfl) dX12_pairs_8 ⟨Nat.zero_le _, Nat.zero_le _⟩) hS (fun H locs hP hS => ?_)
  refine lv_if_eq (tgt := 32) hx hb dX12_pairs_11 (by decide) (fun c1 => ?_) (fun c1 => ?_)
  · replace hf := (if_pos c1).symm.trans hf
    refine lv_iconst (v := 0) hx hb dX12_pairs_32 (by decide) ?_
    exact B33 g a v1 v2 0 _ _ _ hP hS (lv_sub hl [0, 1, 2] rfl) hf
  · replace hf := (if_neg c1).symm.trans hf
    refine lv_iload_n hx hb dX12_pairs_14 rfl (lv_at hl 2 rfl) ?_
    refine lv_iconst (v := 0) hx hb dX12_pairs_15 (by decide) ?_
    refine lv_aload_n hx hb dX12_pairs_16 rfl (lv_at hl 0 rfl) ?_
    refine va_get (C := RX12) (T := TX12) (N := 22) hx hb hw bfX120 hown hK hP 0 (gm_0 E g a) rfl 14 (by decide) (hw _ bw764) (fun _ h9 => h9) rfl dX12_pairs_17 ?_
    refine lv_iconst (v := 1) hx hb dX12_pairs_20 (by decide) ?_
    refine lv_isub hx hb dX12_pairs_21 ?_
    refine xci (xRunS (rest := []) (As := [.int v2, .int 0, .int ((g 6) - 1)]) (k := 3) C0 (c_X12_in l E g a v2 0 ((g 6) - 1)) bw772 bw785 bw778 bw786 hd_X12_in ⟨Nat.le_of_ble_eq_true rfl, Nat.le_of_ble_eq_true rfl⟩ hP (wM_D hD) hS rfl hl.1 rfl (Nat.le_of_ble_eq_true rfl) dX12_pairs_22 ⟨Nat.zero_le _, Nat.zero_le _⟩) hS (fun H locs hP hS => ?_)
    refine lv_if_eq (tgt := 32) hx hb dX12_pairs_25 (by decide) (fun c2 => ?_) (fun c2 => ?_)
    · replace hf := (if_pos c2).symm.trans hf
      refine lv_iconst (v := 0) hx hb dX12_pairs_32 (by decide) ?_
      exact B33 g a v1 v2 0 _ _ _ hP hS (lv_sub hl [0, 1, 2] rfl) hf
    · replace hf := (if_neg c2).symm.trans hf
      refine lv_iconst (v := 1) hx hb dX12_pairs_28 (by decide) ?_
      refine lv_goto (tgt := 33) hx hb dX12_pairs_29 (by decide) ?_
      exact B33 g a v1 v2 1 _ _ _ hP hS (lv_sub hl [0, 1, 2] rfl) hf
