/-! X12_isSign, X12_type, X12_wipe, X12_signAt, X12_isVariable, X12_readsHead, X12_readsAtom, X12_reads, X12_fault, X12_hold, X12_define, X12_instance -/
def t_X12_isSign (g : xG) (a : xA) (v0 : Int32) : Int32 := (if (t_X12_in g a v0 97 102) = 0 then (if (t_X12_in g a v0 48 55) = 0 then (if v0 = 40 then 1 else (if v0 = 41 then 1 else (if v0 = 44 then 1 else (if v0 = 61 then 1 else (if v0 = 38 then 1 else (if v0 = 58 then 1 else 0)))))) else 1) else 1)
set_option maxRecDepth 100000 in
set_option maxHeartbeats 40000000 in
theorem c_X12_isSign (l : Launch) (E : xE) (g : xG) (a : xA) (v0 : Int32) : xM l E yX12_isSign cX12_isSign 1 (some .boolean) 1 22 [.int v0] (wM E g a) (xQi E (t_X12_isSign g a v0) (wM E g a)) := by
  obtain ⟨res, hres⟩ : ∃ z, z = t_X12_isSign g a v0 := ⟨_, rfl⟩
  rw [← hres]
  have hf : _ = res := hres.symm
  unfold t_X12_isSign at hf
  refine xM_of (by decide) (Nat.le_of_ble_eq_true rfl) ?_
  intro p e s m below meth c A hx hb hr hml hts hown hlocks hA hD hP hK hN hS ls hl
  have hw : ∀ w ∈ BW, w.before _ s = true := fun w h => hts w (List.mem_cons_of_mem _ h)
  have C0 : xCtx E p m c cX12_isSign 1 s _ RX12 A yX12_isSign cX12_isSign 1 (some .boolean) := ⟨hx, hb, hml, hown, hts, hA, hK, hN⟩
  have hl : lv_has ls 1 [(0, .int v0)] := hl
  refine lv_iload_n hx hb dX12_isSign_0 rfl (lv_at hl 0 rfl) ?_
  refine lv_bipush (v := 97) hx hb dX12_isSign_1 (by decide) ?_
  refine lv_bipush (v := 102) hx hb dX12_isSign_3 (by decide) ?_
  refine xci (xRunS (rest := []) (As := [.int v0, .int 97, .int 102]) (k := 3) C0 (c_X12_in l E g a v0 97 102) bw772 bw785 bw778 bw786 hd_X12_in ⟨Nat.le_of_ble_eq_true rfl, Nat.le_of_ble_eq_true rfl⟩ hP (wM_D hD) hS rfl hl.1 rfl (Nat.le_of_ble_eq_true rfl) dX12_isSign_5 ⟨Nat.zero_le _, Nat.zero_le _⟩) hS (fun H locs hP hS => ?_)
  refine lv_if_ne (tgt := 58) hx hb dX12_isSign_8 (by decide) (fun c1 => ?_) (fun c1 => ?_)
  · replace hf := (if_neg c1).symm.trans hf
    refine lv_iconst (v := 1) hx hb dX12_isSign_58 (by decide) ?_
    refine lv_goto (tgt := 63) hx hb dX12_isSign_59 (by decide) ?_
    exact xz_retS (fr := (fun r => r)) (fw := (fun r => wM E g a)) hx hb hr hlocks hf nz1 hP hS dX12_isSign_63
  · replace hf := (if_pos c1).symm.trans hf
    refine lv_iload_n hx hb dX12_isSign_11 rfl (lv_at hl 0 rfl) ?_
    refine lv_bipush (v := 48) hx hb dX12_isSign_12 (by decide) ?_
    refine lv_bipush (v := 55) hx hb dX12_isSign_14 (by decide) ?_
    refine xci (xRunS (rest := []) (As := [.int v0, .int 48, .int 55]) (k := 3) C0 (c_X12_in l E g a v0 48 55) bw772 bw785 bw778 bw786 hd_X12_in ⟨Nat.le_of_ble_eq_true rfl, Nat.le_of_ble_eq_true rfl⟩ hP (wM_D hD) hS rfl hl.1 rfl (Nat.le_of_ble_eq_true rfl) dX12_isSign_16 ⟨Nat.zero_le _, Nat.zero_le _⟩) hS (fun H locs hP hS => ?_)
    refine lv_if_ne (tgt := 58) hx hb dX12_isSign_19 (by decide) (fun c2 => ?_) (fun c2 => ?_)
    · replace hf := (if_neg c2).symm.trans hf
      refine lv_iconst (v := 1) hx hb dX12_isSign_58 (by decide) ?_
      refine lv_goto (tgt := 63) hx hb dX12_isSign_59 (by decide) ?_
      exact xz_retS (fr := (fun r => r)) (fw := (fun r => wM E g a)) hx hb hr hlocks hf nz1 hP hS dX12_isSign_63
    · replace hf := (if_pos c2).symm.trans hf
      refine lv_iload_n hx hb dX12_isSign_22 rfl (lv_at hl 0 rfl) ?_
      refine lv_bipush (v := 40) hx hb dX12_isSign_23 (by decide) ?_
      refine lv_icmp_eq (tgt := 58) hx hb dX12_isSign_25 (by decide) (fun c3 => ?_) (fun c3 => ?_)
      · replace hf := (if_pos c3).symm.trans hf
        refine lv_iconst (v := 1) hx hb dX12_isSign_58 (by decide) ?_
        refine lv_goto (tgt := 63) hx hb dX12_isSign_59 (by decide) ?_
        exact xz_retS (fr := (fun r => r)) (fw := (fun r => wM E g a)) hx hb hr hlocks hf nz1 hP hS dX12_isSign_63
      · replace hf := (if_neg c3).symm.trans hf
        refine lv_iload_n hx hb dX12_isSign_28 rfl (lv_at hl 0 rfl) ?_
        refine lv_bipush (v := 41) hx hb dX12_isSign_29 (by decide) ?_
        refine lv_icmp_eq (tgt := 58) hx hb dX12_isSign_31 (by decide) (fun c4 => ?_) (fun c4 => ?_)
        · replace hf := (if_pos c4).symm.trans hf
          refine lv_iconst (v := 1) hx hb dX12_isSign_58 (by decide) ?_
          refine lv_goto (tgt := 63) hx hb dX12_isSign_59 (by decide) ?_
          exact xz_retS (fr := (fun r => r)) (fw := (fun r => wM E g a)) hx hb hr hlocks hf nz1 hP hS dX12_isSign_63
        · replace hf := (if_neg c4).symm.trans hf
          refine lv_iload_n hx hb dX12_isSign_34 rfl (lv_at hl 0 rfl) ?_
          refine lv_bipush (v := 44) hx hb dX12_isSign_35 (by decide) ?_
          refine lv_icmp_eq (tgt := 58) hx hb dX12_isSign_37 (by decide) (fun c5 => ?_) (fun c5 => ?_)
          · replace hf := (if_pos c5).symm.trans hf
            refine lv_iconst (v := 1) hx hb dX12_isSign_58 (by decide) ?_
            refine lv_goto (tgt := 63) hx hb dX12_isSign_59 (by decide) ?_
            exact xz_retS (fr := (fun r => r)) (fw := (fun r => wM E g a)) hx hb hr hlocks hf nz1 hP hS dX12_isSign_63
          · replace hf := (if_neg c5).symm.trans hf
            refine lv_iload_n hx hb dX12_isSign_40 rfl (lv_at hl 0 rfl) ?_
            refine lv_bipush (v := 61) hx hb dX12_isSign_41 (by decide) ?_
            refine lv_icmp_eq (tgt := 58) hx hb dX12_isSign_43 (by decide) (fun c6 => ?_) (fun c6 => ?_)
            · replace hf := (if_pos c6).symm.trans hf
              refine lv_iconst (v := 1) hx hb dX12_isSign_58 (by decide) ?_
              refine lv_goto (tgt := 63) hx hb dX12_isSign_59 (by decide) ?_
              exact xz_retS (fr := (fun r => r)) (fw := (fun r => wM E g a)) hx hb hr hlocks hf nz1 hP hS dX12_isSign_63
            · replace hf := (if_neg c6).symm.trans hf
              refine lv_iload_n hx hb dX12_isSign_46 rfl (lv_at hl 0 rfl) ?_
              refine lv_bipush (v := 38) hx hb dX12_isSign_47 (by decide) ?_
              refine lv_icmp_eq (tgt := 58) hx hb dX12_isSign_49 (by decide) (fun c7 => ?_) (fun c7 => ?_)
              · replace hf := (if_pos c7).symm.trans hf
                refine lv_iconst (v := 1) hx hb dX12_isSign_58 (by decide) ?_
                refine lv_goto (tgt := 63) hx hb dX12_isSign_59 (by decide) ?_
                exact xz_retS (fr := (fun r => r)) (fw := (fun r => wM E g a)) hx hb hr hlocks hf nz1 hP hS dX12_isSign_63
              · replace hf := (if_neg c7).symm.trans hf
                refine lv_iload_n hx hb dX12_isSign_52 rfl (lv_at hl 0 rfl) ?_
                refine lv_bipush (v := 58) hx hb dX12_isSign_53 (by decide) ?_
                refine lv_icmp_ne (tgt := 62) hx hb dX12_isSign_55 (by decide) (fun c8 => ?_) (fun c8 => ?_)
                · replace hf := (if_neg c8).symm.trans hf
                  refine lv_iconst (v := 0) hx hb dX12_isSign_62 (by decide) ?_
                  exact xz_retS (fr := (fun r => r)) (fw := (fun r => wM E g a)) hx hb hr hlocks hf nz0 hP hS dX12_isSign_63
                · replace hf := (if_pos c8).symm.trans hf
                  refine lv_iconst (v := 1) hx hb dX12_isSign_58 (by decide) ?_
                  refine lv_goto (tgt := 63) hx hb dX12_isSign_59 (by decide) ?_
                  exact xz_retS (fr := (fun r => r)) (fw := (fun r => wM E g a)) hx hb hr hlocks hf nz1 hP hS dX12_isSign_63
def f_X12_type_114 : Nat → xG → xA → Int64 → Int32 → Int32 → Option (Int32 × xG × xA)
  | 0, _, _, _, _, _ => none
  | n + 1, g, a, x1, x3, x4 => (if x3 ≤ x4 then some ((g 3), g, a) else ck (inB (g 3) 60) (f_X12_type_114 n (upd g 3 ((g 3) + 1)) (upA a 5 (upd (a 5) ((g 3) : Int32).toNatClampNeg ((((x1 >>> (((8 * x4)).toInt64 &&& 63)) &&& 255) : Int64).toInt32))) x1 x3 (x4 + 1)))
theorem e_X12_type_114 (n : Nat) (g : xG) (a : xA) (x1 : Int64) (x3 : Int32) (x4 : Int32) : f_X12_type_114 (n + 1) g a x1 x3 x4 = (if x3 ≤ x4 then some ((g 3), g, a) else ck (inB (g 3) 60) (f_X12_type_114 n (upd g 3 ((g 3) + 1)) (upA a 5 (upd (a 5) ((g 3) : Int32).toNatClampNeg ((((x1 >>> (((8 * x4)).toInt64 &&& 63)) &&& 255) : Int64).toInt32))) x1 x3 (x4 + 1))) := rfl
def f_X12_type_99 (g : xG) (a : xA) (x1 : Int64) (x3 : Int32) (s0 : Int32) : Option (Int32 × xG × xA) := (if ((upd g 8 s0) 8) ≤ 0 then f_X12_type_114 fu (upd g 8 s0) a x1 x3 0 else some (0, (upd g 8 s0), a))
def f_X12_type_68 (g : xG) (a : xA) (x1 : Int64) (x3 : Int32) : Option (Int32 × xG × xA) := (if (g 8) ≤ 0 then (if ((g 3) + x3) ≤ 60 then f_X12_type_99 g a x1 x3 0 else f_X12_type_99 g a x1 x3 2) else f_X12_type_99 g a x1 x3 (g 8))
def f_X12_type_22 : Nat → xG → xA → Int64 → Int32 → Int32 → Option (Int32 × xG × xA)
  | 0, _, _, _, _, _ => none
  | n + 1, g, a, x1, x3, x4 => (if x3 ≤ x4 then f_X12_type_68 g a x1 x3 else (if (g 8) = 0 then (if (t_X12_isSign g a ((((x1 >>> (((8 * x4)).toInt64 &&& 63)) &&& 255) : Int64).toInt32)) = 0 then f_X12_type_22 n (upd g 8 1) a x1 x3 (x4 + 1) else f_X12_type_22 n (upd g 8 0) a x1 x3 (x4 + 1)) else f_X12_type_68 g a x1 x3))
theorem e_X12_type_22 (n : Nat) (g : xG) (a : xA) (x1 : Int64) (x3 : Int32) (x4 : Int32) : f_X12_type_22 (n + 1) g a x1 x3 x4 = (if x3 ≤ x4 then f_X12_type_68 g a x1 x3 else (if (g 8) = 0 then (if (t_X12_isSign g a ((((x1 >>> (((8 * x4)).toInt64 &&& 63)) &&& 255) : Int64).toInt32)) = 0 then f_X12_type_22 n (upd g 8 1) a x1 x3 (x4 + 1) else f_X12_type_22 n (upd g 8 0) a x1 x3 (x4 + 1)) else f_X12_type_68 g a x1 x3)) := rfl
def f_X12_type (g : xG) (a : xA) (v1 : Int64) (v3 : Int32) : Option (Int32 × xG × xA) := (if (t_X12_in g a v3 1 8) = 0 then f_X12_type_22 fu (upd g 8 1) a v1 v3 0 else f_X12_type_22 fu (upd g 8 0) a v1 v3 0)
set_option maxRecDepth 100000 in
set_option maxHeartbeats 40000000 in
theorem c_X12_type (l : Launch) (E : xE) (g : xG) (a : xA) (v1 : Int64) (v3 : Int32) {res : Int32 × xG × xA} (hf : f_X12_type g a v1 v3 = some res) : xM l E yX12_type cX12_type 5 (some .int) 2 42 [.ref (E.2.1 0), .long v1, .int v3] (wM E g a) (xQi E res.1 (wM E res.2.1 res.2.2)) := by
  unfold f_X12_type at hf
  refine xM_of (by decide) (Nat.le_of_ble_eq_true rfl) ?_
  intro p e s m below meth c A hx hb hr hml hts hown hlocks hA hD hP hK hN hS ls hl
  have hw : ∀ w ∈ BW, w.before _ s = true := fun w h => hts w (List.mem_cons_of_mem _ h)
  have C0 : xCtx E p m c cX12_type 5 s _ RX12 A yX12_type cX12_type 5 (some .int) := ⟨hx, hb, hml, hown, hts, hA, hK, hN⟩
  have hl : lv_has ls 5 [(0, .ref (E.2.1 0)), (1, .long v1), (3, .int v3)] := hl
  have B114 : ∀ (n : Nat) (g : xG) (a : xA) (x1 : Int64) (x3 : Int32) (x4 : Int32) (H : Heap) (locs : List Loc) (ls : Array Slot), va_P E.1 vwCl (wM E g a) H → va_S A s.heap H locs → lv_has ls 5 [(0, .ref (E.2.1 0)), (1, .long x1), (3, .int x3), (4, .int x4)] → f_X12_type_114 n g a x1 x3 x4 = some res → W p l e ({ frames := 2, cells := 0, slots := 0, locals := 42 }) s m ([.ref (E.2.1 0), .long v1, .int v3] : List Value).toArray below meth c H locs 0 0 (MQ below ((xQi E res.1 (wM E res.2.1 res.2.2)) A) ([.ref (E.2.1 0), .long v1, .int v3] : List Value).toArray s 0 0 A) (F0 m 114 ls []) := by
    intro n
    induction n with
    | zero => intro g a x1 x3 x4 H locs ls hP hS hl hf; exact absurd (show (none : Option (Int32 × xG × xA)) = some res from hf) (by intro h; cases h)
    | succ n ih =>
      intro g a x1 x3 x4 H locs ls hP hS hl hf
      replace hf := (e_X12_type_114 n g a x1 x3 x4).symm.trans hf
      refine lv_iload hx hb dX12_type_114 (lv_at hl 3 rfl) ?_
      refine lv_iload_n hx hb dX12_type_116 rfl (lv_at hl 2 rfl) ?_
      refine lv_icmp_ge (tgt := 157) hx hb dX12_type_117 (by decide) (fun c8 => ?_) (fun c8 => ?_)
      · replace hf := (if_pos c8).symm.trans hf
        refine lv_aload_n hx hb dX12_type_157 rfl (lv_at hl 0 rfl) ?_
        refine va_get (C := RX12) (T := TX12) (N := 22) hx hb hw bfX120 hown hK hP 0 (gm_0 E g a) rfl 7 (by decide) (hw _ bw920) (fun _ h9 => h9) rfl dX12_type_158 ?_
        exact xi_retS (fr := (fun r => r.1)) (fw := (fun r => wM E r.2.1 r.2.2)) hx hb hr hlocks (Option.some.inj hf) hP hS dX12_type_161
      · replace hf := (if_neg c8).symm.trans hf
        refine lv_aload_n hx hb dX12_type_120 rfl (lv_at hl 0 rfl) ?_
        refine va_get (C := RX12) (T := TX12) (N := 22) hx hb hw bfX120 hown hK hP 0 (gm_0 E g a) rfl 8 (by decide) (hw _ bw760) (fun _ h9 => h9) rfl dX12_type_121 ?_
        refine lv_aload_n hx hb dX12_type_124 rfl (lv_at hl 0 rfl) ?_
        refine va_get (C := RX12) (T := TX12) (N := 22) hx hb hw bfX120 hown hK hP 0 (gm_0 E g a) rfl 7 (by decide) (hw _ bw920) (fun _ h9 => h9) rfl dX12_type_125 ?_
        refine lv_lload_n hx hb dX12_type_128 rfl (lv_at hl 1 rfl) ?_
        refine lv_bipush (v := 8) hx hb dX12_type_129 (by decide) ?_
        refine lv_iload hx hb dX12_type_131 (lv_at hl 3 rfl) ?_
        refine lv_imul hx hb dX12_type_133 ?_
        refine lv_lshr (v := (x1 >>> (((8 * x4)).toInt64 &&& 63))) hx hb dX12_type_134 rfl ?_
        refine lv_ldc2 hx hb hown (hw _ bw919) dX12_type_135 ?_
        refine lv_land hx hb dX12_type_138 ?_
        refine lv_l2i (v := ((((x1 >>> (((8 * x4)).toInt64 &&& 63)) &&& 255) : Int64).toInt32)) hx hb dX12_type_139 rfl ?_
        obtain ⟨k9, hf⟩ := ck_some hf
        refine va_iast hx hb hK hP (wM_D hD) hS 5 0 (gm_5 E g a) rfl (inB_in k9) dX12_type_140 (fun H locs hP _ hS => ?_)
        have hP := xP_eq (sm_a5 E g a (upd (a 5) ((g 3) : Int32).toNatClampNeg ((((x1 >>> (((8 * x4)).toInt64 &&& 63)) &&& 255) : Int64).toInt32))) hP
        refine lv_aload_n hx hb dX12_type_141 rfl (lv_at hl 0 rfl) ?_
        refine lv_dup hx hb dX12_type_142 rfl ?_
        refine va_get (C := RX12) (T := TX12) (N := 22) hx hb hw bfX120 hown hK hP 0 (gm_0 E g (upA a 5 (upd (a 5) ((g 3) : Int32).toNatClampNeg ((((x1 >>> (((8 * x4)).toInt64 &&& 63)) &&& 255) : Int64).toInt32)))) rfl 7 (by decide) (hw _ bw920) (fun _ h9 => h9) rfl dX12_type_143 ?_
        refine lv_iconst (v := 1) hx hb dX12_type_146 (by decide) ?_
        refine lv_iadd hx hb dX12_type_147 ?_
        refine va_put (v := .int ((g 3) + 1)) (ty := .int) (C := RX12) (T := TX12) (N := 22) hx hb hw bfX120 tyX12 tyX12_ok nmX12 hown hK hP (wM_D hD) hS 0 (gm_0 E g (upA a 5 (upd (a 5) ((g 3) : Int32).toNatClampNeg ((((x1 >>> (((8 * x4)).toInt64 &&& 63)) &&& 255) : Int64).toInt32)))) rfl 7 (by decide) (hw _ bw920) (fun _ h9 => h9) rfl (by decide +kernel) rfl rfl (Nat.le_of_ble_eq_true rfl) dX12_type_148 (fun H locs hP _ hS => ?_)
        have hP := xP_eq (sm_g3 E g (upA a 5 (upd (a 5) ((g 3) : Int32).toNatClampNeg ((((x1 >>> (((8 * x4)).toInt64 &&& 63)) &&& 255) : Int64).toInt32))) ((g 3) + 1)) hP
        refine lv_iinc (v := (x4 + 1)) (lv' := [(4, .int (x4 + 1)), (0, .ref (E.2.1 0)), (1, .long x1), (3, .int x3)]) hx hb dX12_type_151 hl (k := 3) rfl rfl (by decide) rfl (fun ls hl => ?_)
        refine lv_goto (tgt := 114) hx hb dX12_type_154 (by decide) ?_
        exact ih (upd g 3 ((g 3) + 1)) (upA a 5 (upd (a 5) ((g 3) : Int32).toNatClampNeg ((((x1 >>> (((8 * x4)).toInt64 &&& 63)) &&& 255) : Int64).toInt32))) x1 x3 (x4 + 1) _ _ _ hP hS (lv_sub hl [1, 2, 3, 0] rfl) hf
  have B99 : ∀ (g : xG) (a : xA) (x1 : Int64) (x3 : Int32) (s0 : Int32) (H : Heap) (locs : List Loc) (ls : Array Slot), va_P E.1 vwCl (wM E g a) H → va_S A s.heap H locs → lv_has ls 5 [(0, .ref (E.2.1 0)), (1, .long x1), (3, .int x3)] → f_X12_type_99 g a x1 x3 s0 = some res → W p l e ({ frames := 2, cells := 0, slots := 0, locals := 42 }) s m ([.ref (E.2.1 0), .long v1, .int v3] : List Value).toArray below meth c H locs 0 0 (MQ below ((xQi E res.1 (wM E res.2.1 res.2.2)) A) ([.ref (E.2.1 0), .long v1, .int v3] : List Value).toArray s 0 0 A) (F0 m 99 ls [.int s0, .ref (E.2.1 0)]) := by
    intro g a x1 x3 s0 H locs ls hP hS hl hf
    unfold f_X12_type_99 at hf
    refine va_put (v := .int s0) (ty := .int) (C := RX12) (T := TX12) (N := 22) hx hb hw bfX120 tyX12 tyX12_ok nmX12 hown hK hP (wM_D hD) hS 0 (gm_0 E g a) rfl 21 (by decide) (hw _ bw771) (fun _ h9 => h9) rfl (by decide +kernel) rfl rfl (Nat.le_of_ble_eq_true rfl) dX12_type_99 (fun H locs hP _ hS => ?_)
    have hP := xP_eq (sm_g8 E g a s0) hP
    refine lv_aload_n hx hb dX12_type_102 rfl (lv_at hl 0 rfl) ?_
    refine va_get (C := RX12) (T := TX12) (N := 22) hx hb hw bfX120 hown hK hP 0 (gm_0 E (upd g 8 s0) a) rfl 21 (by decide) (hw _ bw771) (fun _ h9 => h9) rfl dX12_type_103 ?_
    refine lv_if_le (tgt := 111) hx hb dX12_type_106 (by decide) (fun c7 => ?_) (fun c7 => ?_)
    · replace hf := (if_pos c7).symm.trans hf
      refine lv_iconst (v := 0) hx hb dX12_type_111 (by decide) ?_
      refine lv_istore (lv' := [(4, .int 0), (0, .ref (E.2.1 0)), (1, .long x1), (3, .int x3)]) hx hb dX12_type_112 hl (by decide) rfl (fun ls hl => ?_)
      exact B114 fu (upd g 8 s0) a x1 x3 0 _ _ _ hP hS (lv_sub hl [1, 2, 3, 0] rfl) hf
    · replace hf := (if_neg c7).symm.trans hf
      refine lv_iconst (v := 0) hx hb dX12_type_109 (by decide) ?_
      exact xi_retS (fr := (fun r => r.1)) (fw := (fun r => wM E r.2.1 r.2.2)) hx hb hr hlocks (Option.some.inj hf) hP hS dX12_type_110
  have B68 : ∀ (g : xG) (a : xA) (x1 : Int64) (x3 : Int32) (H : Heap) (locs : List Loc) (ls : Array Slot), va_P E.1 vwCl (wM E g a) H → va_S A s.heap H locs → lv_has ls 5 [(0, .ref (E.2.1 0)), (1, .long x1), (3, .int x3)] → f_X12_type_68 g a x1 x3 = some res → W p l e ({ frames := 2, cells := 0, slots := 0, locals := 42 }) s m ([.ref (E.2.1 0), .long v1, .int v3] : List Value).toArray below meth c H locs 0 0 (MQ below ((xQi E res.1 (wM E res.2.1 res.2.2)) A) ([.ref (E.2.1 0), .long v1, .int v3] : List Value).toArray s 0 0 A) (F0 m 68 ls []) := by
    intro g a x1 x3 H locs ls hP hS hl hf
    unfold f_X12_type_68 at hf
    refine lv_aload_n hx hb dX12_type_68 rfl (lv_at hl 0 rfl) ?_
    refine lv_aload_n hx hb dX12_type_69 rfl (lv_at hl 0 rfl) ?_
    refine va_get (C := RX12) (T := TX12) (N := 22) hx hb hw bfX120 hown hK hP 0 (gm_0 E g a) rfl 21 (by decide) (hw _ bw771) (fun _ h9 => h9) rfl dX12_type_70 ?_
    refine lv_if_le (tgt := 83) hx hb dX12_type_73 (by decide) (fun c5 => ?_) (fun c5 => ?_)
    · replace hf := (if_pos c5).symm.trans hf
      refine lv_aload_n hx hb dX12_type_83 rfl (lv_at hl 0 rfl) ?_
      refine va_get (C := RX12) (T := TX12) (N := 22) hx hb hw bfX120 hown hK hP 0 (gm_0 E g a) rfl 7 (by decide) (hw _ bw920) (fun _ h9 => h9) rfl dX12_type_84 ?_
      refine lv_iload_n hx hb dX12_type_87 rfl (lv_at hl 2 rfl) ?_
      refine lv_iadd hx hb dX12_type_88 ?_
      refine lv_bipush (v := 60) hx hb dX12_type_89 (by decide) ?_
      refine lv_icmp_le (tgt := 98) hx hb dX12_type_91 (by decide) (fun c6 => ?_) (fun c6 => ?_)
      · replace hf := (if_pos c6).symm.trans hf
        refine lv_iconst (v := 0) hx hb dX12_type_98 (by decide) ?_
        exact B99 g a x1 x3 0 _ _ _ hP hS (lv_sub hl [0, 1, 2] rfl) hf
      · replace hf := (if_neg c6).symm.trans hf
        refine lv_iconst (v := 2) hx hb dX12_type_94 (by decide) ?_
        refine lv_goto (tgt := 99) hx hb dX12_type_95 (by decide) ?_
        exact B99 g a x1 x3 2 _ _ _ hP hS (lv_sub hl [0, 1, 2] rfl) hf
    · replace hf := (if_neg c5).symm.trans hf
      refine lv_aload_n hx hb dX12_type_76 rfl (lv_at hl 0 rfl) ?_
      refine va_get (C := RX12) (T := TX12) (N := 22) hx hb hw bfX120 hown hK hP 0 (gm_0 E g a) rfl 21 (by decide) (hw _ bw771) (fun _ h9 => h9) rfl dX12_type_77 ?_
      refine lv_goto (tgt := 99) hx hb dX12_type_80 (by decide) ?_
      exact B99 g a x1 x3 (g 8) _ _ _ hP hS (lv_sub hl [0, 1, 2] rfl) hf
  have B22 : ∀ (n : Nat) (g : xG) (a : xA) (x1 : Int64) (x3 : Int32) (x4 : Int32) (H : Heap) (locs : List Loc) (ls : Array Slot), va_P E.1 vwCl (wM E g a) H → va_S A s.heap H locs → lv_has ls 5 [(0, .ref (E.2.1 0)), (1, .long x1), (3, .int x3), (4, .int x4)] → f_X12_type_22 n g a x1 x3 x4 = some res → W p l e ({ frames := 2, cells := 0, slots := 0, locals := 42 }) s m ([.ref (E.2.1 0), .long v1, .int v3] : List Value).toArray below meth c H locs 0 0 (MQ below ((xQi E res.1 (wM E res.2.1 res.2.2)) A) ([.ref (E.2.1 0), .long v1, .int v3] : List Value).toArray s 0 0 A) (F0 m 22 ls []) := by
    intro n
    induction n with
    | zero => intro g a x1 x3 x4 H locs ls hP hS hl hf; exact absurd (show (none : Option (Int32 × xG × xA)) = some res from hf) (by intro h; cases h)
    | succ n ih =>
      intro g a x1 x3 x4 H locs ls hP hS hl hf
      replace hf := (e_X12_type_22 n g a x1 x3 x4).symm.trans hf
      refine lv_iload hx hb dX12_type_22 (lv_at hl 3 rfl) ?_
      refine lv_iload_n hx hb dX12_type_24 rfl (lv_at hl 2 rfl) ?_
      refine lv_icmp_ge (tgt := 68) hx hb dX12_type_25 (by decide) (fun c2 => ?_) (fun c2 => ?_)
      · replace hf := (if_pos c2).symm.trans hf
        exact B68 g a x1 x3 _ _ _ hP hS (lv_sub hl [0, 1, 2] rfl) hf
      · replace hf := (if_neg c2).symm.trans hf
        refine lv_aload_n hx hb dX12_type_28 rfl (lv_at hl 0 rfl) ?_
        refine va_get (C := RX12) (T := TX12) (N := 22) hx hb hw bfX120 hown hK hP 0 (gm_0 E g a) rfl 21 (by decide) (hw _ bw771) (fun _ h9 => h9) rfl dX12_type_29 ?_
        refine lv_if_ne (tgt := 68) hx hb dX12_type_32 (by decide) (fun c3 => ?_) (fun c3 => ?_)
        · replace hf := (if_neg c3).symm.trans hf
          exact B68 g a x1 x3 _ _ _ hP hS (lv_sub hl [0, 1, 2] rfl) hf
        · replace hf := (if_pos c3).symm.trans hf
          refine lv_aload_n hx hb dX12_type_35 rfl (lv_at hl 0 rfl) ?_
          refine lv_lload_n hx hb dX12_type_36 rfl (lv_at hl 1 rfl) ?_
          refine lv_bipush (v := 8) hx hb dX12_type_37 (by decide) ?_
          refine lv_iload hx hb dX12_type_39 (lv_at hl 3 rfl) ?_
          refine lv_imul hx hb dX12_type_41 ?_
          refine lv_lshr (v := (x1 >>> (((8 * x4)).toInt64 &&& 63))) hx hb dX12_type_42 rfl ?_
          refine lv_ldc2 hx hb hown (hw _ bw919) dX12_type_43 ?_
          refine lv_land hx hb dX12_type_46 ?_
          refine lv_l2i (v := ((((x1 >>> (((8 * x4)).toInt64 &&& 63)) &&& 255) : Int64).toInt32)) hx hb dX12_type_47 rfl ?_
          refine xci (xRunS (rest := [.ref (E.2.1 0)]) (As := [.int ((((x1 >>> (((8 * x4)).toInt64 &&& 63)) &&& 255) : Int64).toInt32)]) (k := 1) C0 (c_X12_isSign l E g a ((((x1 >>> (((8 * x4)).toInt64 &&& 63)) &&& 255) : Int64).toInt32)) bw917 bw921 bw778 bw922 hd_X12_isSign ⟨Nat.le_of_ble_eq_true rfl, Nat.le_of_ble_eq_true rfl⟩ hP (wM_D hD) hS rfl hl.1 rfl (Nat.le_of_ble_eq_true rfl) dX12_type_48 ⟨Nat.zero_le _, Nat.zero_le _⟩) hS (fun H locs hP hS => ?_)
          refine lv_if_eq (tgt := 58) hx hb dX12_type_51 (by decide) (fun c4 => ?_) (fun c4 => ?_)
          · replace hf := (if_pos c4).symm.trans hf
            refine lv_iconst (v := 1) hx hb dX12_type_58 (by decide) ?_
            refine va_put (v := .int 1) (ty := .int) (C := RX12) (T := TX12) (N := 22) hx hb hw bfX120 tyX12 tyX12_ok nmX12 hown hK hP (wM_D hD) hS 0 (gm_0 E g a) rfl 21 (by decide) (hw _ bw771) (fun _ h9 => h9) rfl (by decide +kernel) rfl rfl (Nat.le_of_ble_eq_true rfl) dX12_type_59 (fun H locs hP _ hS => ?_)
            have hP := xP_eq (sm_g8 E g a 1) hP
            refine lv_iinc (v := (x4 + 1)) (lv' := [(4, .int (x4 + 1)), (0, .ref (E.2.1 0)), (1, .long x1), (3, .int x3)]) hx hb dX12_type_62 hl (k := 3) rfl rfl (by decide) rfl (fun ls hl => ?_)
            refine lv_goto (tgt := 22) hx hb dX12_type_65 (by decide) ?_
            exact ih (upd g 8 1) a x1 x3 (x4 + 1) _ _ _ hP hS (lv_sub hl [1, 2, 3, 0] rfl) hf
          · replace hf := (if_neg c4).symm.trans hf
            refine lv_iconst (v := 0) hx hb dX12_type_54 (by decide) ?_
            refine lv_goto (tgt := 59) hx hb dX12_type_55 (by decide) ?_
            refine va_put (v := .int 0) (ty := .int) (C := RX12) (T := TX12) (N := 22) hx hb hw bfX120 tyX12 tyX12_ok nmX12 hown hK hP (wM_D hD) hS 0 (gm_0 E g a) rfl 21 (by decide) (hw _ bw771) (fun _ h9 => h9) rfl (by decide +kernel) rfl rfl (Nat.le_of_ble_eq_true rfl) dX12_type_59 (fun H locs hP _ hS => ?_)
            have hP := xP_eq (sm_g8 E g a 0) hP
            refine lv_iinc (v := (x4 + 1)) (lv' := [(4, .int (x4 + 1)), (0, .ref (E.2.1 0)), (1, .long x1), (3, .int x3)]) hx hb dX12_type_62 hl (k := 3) rfl rfl (by decide) rfl (fun ls hl => ?_)
            refine lv_goto (tgt := 22) hx hb dX12_type_65 (by decide) ?_
            exact ih (upd g 8 0) a x1 x3 (x4 + 1) _ _ _ hP hS (lv_sub hl [1, 2, 3, 0] rfl) hf
  refine lv_aload_n hx hb dX12_type_0 rfl (lv_at hl 0 rfl) ?_
  refine lv_iload_n hx hb dX12_type_1 rfl (lv_at hl 2 rfl) ?_
  refine lv_iconst (v := 1) hx hb dX12_type_2 (by decide) ?_
  refine lv_bipush (v := 8) hx hb dX12_type_3 (by decide) ?_
  refine xci (xRunS (rest := [.ref (E.2.1 0)]) (As := [.int v3, .int 1, .int 8]) (k := 3) C0 (c_X12_in l E g a v3 1 8) bw772 bw785 bw778 bw786 hd_X12_in ⟨Nat.le_of_ble_eq_true rfl, Nat.le_of_ble_eq_true rfl⟩ hP (wM_D hD) hS rfl hl.1 rfl (Nat.le_of_ble_eq_true rfl) dX12_type_5 ⟨Nat.zero_le _, Nat.zero_le _⟩) hS (fun H locs hP hS => ?_)
  refine lv_if_eq (tgt := 15) hx hb dX12_type_8 (by decide) (fun c1 => ?_) (fun c1 => ?_)
  · replace hf := (if_pos c1).symm.trans hf
    refine lv_iconst (v := 1) hx hb dX12_type_15 (by decide) ?_
    refine va_put (v := .int 1) (ty := .int) (C := RX12) (T := TX12) (N := 22) hx hb hw bfX120 tyX12 tyX12_ok nmX12 hown hK hP (wM_D hD) hS 0 (gm_0 E g a) rfl 21 (by decide) (hw _ bw771) (fun _ h9 => h9) rfl (by decide +kernel) rfl rfl (Nat.le_of_ble_eq_true rfl) dX12_type_16 (fun H locs hP _ hS => ?_)
    have hP := xP_eq (sm_g8 E g a 1) hP
    refine lv_iconst (v := 0) hx hb dX12_type_19 (by decide) ?_
    refine lv_istore (lv' := [(4, .int 0), (0, .ref (E.2.1 0)), (1, .long v1), (3, .int v3)]) hx hb dX12_type_20 hl (by decide) rfl (fun ls hl => ?_)
    exact B22 fu (upd g 8 1) a v1 v3 0 _ _ _ hP hS (lv_sub hl [1, 2, 3, 0] rfl) hf
  · replace hf := (if_neg c1).symm.trans hf
    refine lv_iconst (v := 0) hx hb dX12_type_11 (by decide) ?_
    refine lv_goto (tgt := 16) hx hb dX12_type_12 (by decide) ?_
    refine va_put (v := .int 0) (ty := .int) (C := RX12) (T := TX12) (N := 22) hx hb hw bfX120 tyX12 tyX12_ok nmX12 hown hK hP (wM_D hD) hS 0 (gm_0 E g a) rfl 21 (by decide) (hw _ bw771) (fun _ h9 => h9) rfl (by decide +kernel) rfl rfl (Nat.le_of_ble_eq_true rfl) dX12_type_16 (fun H locs hP _ hS => ?_)
    have hP := xP_eq (sm_g8 E g a 0) hP
    refine lv_iconst (v := 0) hx hb dX12_type_19 (by decide) ?_
    refine lv_istore (lv' := [(4, .int 0), (0, .ref (E.2.1 0)), (1, .long v1), (3, .int v3)]) hx hb dX12_type_20 hl (by decide) rfl (fun ls hl => ?_)
    exact B22 fu (upd g 8 0) a v1 v3 0 _ _ _ hP hS (lv_sub hl [1, 2, 3, 0] rfl) hf
def t_X12_wipe (g : xG) (a : xA) : Int32 × xG := (((upd g 8 0) 3), (upd (upd g 8 0) 3 0))
set_option maxRecDepth 100000 in
set_option maxHeartbeats 40000000 in
theorem c_X12_wipe (l : Launch) (E : xE) (g : xG) (a : xA) : xM l E yX12_wipe cX12_wipe 2 (some .int) 0 0 [.ref (E.2.1 0)] (wM E g a) (xQi E (t_X12_wipe g a).1 (wM E (t_X12_wipe g a).2 a)) := by
  obtain ⟨res, hres⟩ : ∃ z, z = t_X12_wipe g a := ⟨_, rfl⟩
  rw [← hres]
  have hf : _ = res := hres.symm
  unfold t_X12_wipe at hf
  refine xM_of (by decide) (Nat.le_of_ble_eq_true rfl) ?_
  intro p e s m below meth c A hx hb hr hml hts hown hlocks hA hD hP hK hN hS ls hl
  have hw : ∀ w ∈ BW, w.before _ s = true := fun w h => hts w (List.mem_cons_of_mem _ h)
  have C0 : xCtx E p m c cX12_wipe 2 s _ RX12 A yX12_wipe cX12_wipe 2 (some .int) := ⟨hx, hb, hml, hown, hts, hA, hK, hN⟩
  have hl : lv_has ls 2 [(0, .ref (E.2.1 0))] := hl
  refine lv_aload_n hx hb dX12_wipe_0 rfl (lv_at hl 0 rfl) ?_
  refine lv_iconst (v := 0) hx hb dX12_wipe_1 (by decide) ?_
  refine va_put (v := .int 0) (ty := .int) (C := RX12) (T := TX12) (N := 22) hx hb hw bfX120 tyX12 tyX12_ok nmX12 hown hK hP (wM_D hD) hS 0 (gm_0 E g a) rfl 21 (by decide) (hw _ bw771) (fun _ h9 => h9) rfl (by decide +kernel) rfl rfl (Nat.le_of_ble_eq_true rfl) dX12_wipe_2 (fun H locs hP _ hS => ?_)
  have hP := xP_eq (sm_g8 E g a 0) hP
  refine lv_aload_n hx hb dX12_wipe_5 rfl (lv_at hl 0 rfl) ?_
  refine va_get (C := RX12) (T := TX12) (N := 22) hx hb hw bfX120 hown hK hP 0 (gm_0 E (upd g 8 0) a) rfl 7 (by decide) (hw _ bw920) (fun _ h9 => h9) rfl dX12_wipe_6 ?_
  refine lv_istore_n (lv' := [(1, .int ((upd g 8 0) 3)), (0, .ref (E.2.1 0))]) hx hb dX12_wipe_9 rfl hl (by decide) rfl (fun ls hl => ?_)
  refine lv_aload_n hx hb dX12_wipe_10 rfl (lv_at hl 1 rfl) ?_
  refine lv_iconst (v := 0) hx hb dX12_wipe_11 (by decide) ?_
  refine va_put (v := .int 0) (ty := .int) (C := RX12) (T := TX12) (N := 22) hx hb hw bfX120 tyX12 tyX12_ok nmX12 hown hK hP (wM_D hD) hS 0 (gm_0 E (upd g 8 0) a) rfl 7 (by decide) (hw _ bw920) (fun _ h9 => h9) rfl (by decide +kernel) rfl rfl (Nat.le_of_ble_eq_true rfl) dX12_wipe_12 (fun H locs hP _ hS => ?_)
  have hP := xP_eq (sm_g3 E (upd g 8 0) a 0) hP
  refine lv_iload_n hx hb dX12_wipe_15 rfl (lv_at hl 0 rfl) ?_
  exact xi_retS (fr := (fun r => r.1)) (fw := (fun r => wM E r.2 a)) hx hb hr hlocks hf hP hS dX12_wipe_16
def f_X12_signAt (g : xG) (a : xA) (v1 : Int32) : Option (Int32) := (if (g 3) ≤ v1 then some 0 else ck (inB v1 60) (some (a 5 (v1 : Int32).toNatClampNeg)))
set_option maxRecDepth 100000 in
set_option maxHeartbeats 40000000 in
theorem c_X12_signAt (l : Launch) (E : xE) (g : xG) (a : xA) (v1 : Int32) {res : Int32} (hf : f_X12_signAt g a v1 = some res) : xM l E yX12_signAt cX12_signAt 2 (some .int) 0 0 [.ref (E.2.1 0), .int v1] (wM E g a) (xQi E res (wM E g a)) := by
  unfold f_X12_signAt at hf
  refine xM_of (by decide) (Nat.le_of_ble_eq_true rfl) ?_
  intro p e s m below meth c A hx hb hr hml hts hown hlocks hA hD hP hK hN hS ls hl
  have hw : ∀ w ∈ BW, w.before _ s = true := fun w h => hts w (List.mem_cons_of_mem _ h)
  have C0 : xCtx E p m c cX12_signAt 2 s _ RX12 A yX12_signAt cX12_signAt 2 (some .int) := ⟨hx, hb, hml, hown, hts, hA, hK, hN⟩
  have hl : lv_has ls 2 [(0, .ref (E.2.1 0)), (1, .int v1)] := hl
  refine lv_iload_n hx hb dX12_signAt_0 rfl (lv_at hl 1 rfl) ?_
  refine lv_aload_n hx hb dX12_signAt_1 rfl (lv_at hl 0 rfl) ?_
  refine va_get (C := RX12) (T := TX12) (N := 22) hx hb hw bfX120 hown hK hP 0 (gm_0 E g a) rfl 7 (by decide) (hw _ bw920) (fun _ h9 => h9) rfl dX12_signAt_2 ?_
  refine lv_icmp_ge (tgt := 17) hx hb dX12_signAt_5 (by decide) (fun c1 => ?_) (fun c1 => ?_)
  · replace hf := (if_pos c1).symm.trans hf
    refine lv_iconst (v := 0) hx hb dX12_signAt_17 (by decide) ?_
    exact xi_retS (fr := (fun r => r)) (fw := (fun r => wM E g a)) hx hb hr hlocks (Option.some.inj hf) hP hS dX12_signAt_18
  · replace hf := (if_neg c1).symm.trans hf
    refine lv_aload_n hx hb dX12_signAt_8 rfl (lv_at hl 0 rfl) ?_
    refine va_get (C := RX12) (T := TX12) (N := 22) hx hb hw bfX120 hown hK hP 0 (gm_0 E g a) rfl 8 (by decide) (hw _ bw760) (fun _ h9 => h9) rfl dX12_signAt_9 ?_
    refine lv_iload_n hx hb dX12_signAt_12 rfl (lv_at hl 1 rfl) ?_
    obtain ⟨k2, hf⟩ := ck_some hf
    refine va_iald hx hb hK hP 5 0 (gm_5 E g a) rfl (inB_in k2) dX12_signAt_13 ?_
    refine lv_goto (tgt := 18) hx hb dX12_signAt_14 (by decide) ?_
    exact xi_retS (fr := (fun r => r)) (fw := (fun r => wM E g a)) hx hb hr hlocks (Option.some.inj hf) hP hS dX12_signAt_18
def f_X12_isVariable (g : xG) (a : xA) (v1 : Int32) : Option (Int32) := Option.bind (f_X12_signAt g a v1) (fun u1 => ck (boB (t_X12_in g a u1 97 102)) (some (t_X12_in g a u1 97 102)))
set_option maxRecDepth 100000 in
set_option maxHeartbeats 40000000 in
theorem c_X12_isVariable (l : Launch) (E : xE) (g : xG) (a : xA) (v1 : Int32) {res : Int32} (hf : f_X12_isVariable g a v1 = some res) : xM l E yX12_isVariable cX12_isVariable 2 (some .boolean) 1 22 [.ref (E.2.1 0), .int v1] (wM E g a) (xQi E res (wM E g a)) := by
  unfold f_X12_isVariable at hf
  refine xM_of (by decide) (Nat.le_of_ble_eq_true rfl) ?_
  intro p e s m below meth c A hx hb hr hml hts hown hlocks hA hD hP hK hN hS ls hl
  have hw : ∀ w ∈ BW, w.before _ s = true := fun w h => hts w (List.mem_cons_of_mem _ h)
  have C0 : xCtx E p m c cX12_isVariable 2 s _ RX12 A yX12_isVariable cX12_isVariable 2 (some .boolean) := ⟨hx, hb, hml, hown, hts, hA, hK, hN⟩
  have hl : lv_has ls 2 [(0, .ref (E.2.1 0)), (1, .int v1)] := hl
  refine lv_aload_n hx hb dX12_isVariable_0 rfl (lv_at hl 0 rfl) ?_
  refine lv_iload_n hx hb dX12_isVariable_1 rfl (lv_at hl 1 rfl) ?_
  obtain ⟨u1, e2, hf⟩ := bd_some hf
  refine xci (xRunV (rest := []) (As := [.int v1]) (C := RX12) (k := 1) C0 (c_X12_signAt l E g a v1 e2) bw924 bw926 bw778 bw927 bw928 hd_X12_signAt ⟨Nat.le_of_ble_eq_true rfl, Nat.le_of_ble_eq_true rfl⟩ hP (wM_D hD) hS (va_recv hK hP (ci := 12) rfl (gm_0 E g a)) rfl hl.1 rfl (Nat.le_of_ble_eq_true rfl) dX12_isVariable_2 ⟨Nat.zero_le _, Nat.zero_le _⟩) hS (fun H locs hP hS => ?_)
  refine lv_bipush (v := 97) hx hb dX12_isVariable_5 (by decide) ?_
  refine lv_bipush (v := 102) hx hb dX12_isVariable_7 (by decide) ?_
  refine xci (xRunS (rest := []) (As := [.int u1, .int 97, .int 102]) (k := 3) C0 (c_X12_in l E g a u1 97 102) bw772 bw785 bw778 bw786 hd_X12_in ⟨Nat.le_of_ble_eq_true rfl, Nat.le_of_ble_eq_true rfl⟩ hP (wM_D hD) hS rfl hl.1 rfl (Nat.le_of_ble_eq_true rfl) dX12_isVariable_9 ⟨Nat.zero_le _, Nat.zero_le _⟩) hS (fun H locs hP hS => ?_)
  obtain ⟨k3, hf⟩ := ck_some hf
  exact xz_retS (fr := (fun r => r)) (fw := (fun r => wM E g a)) hx hb hr hlocks (Option.some.inj hf) (boB_bo k3) hP hS dX12_isVariable_12
def f_X12_readsHead_81 (K7 : xG → xA → Int32 → Option (Int32 × xG × xA)) (g : xG) (a : xA) (x1 : Int32) (s0 : Int32) (s1 : Int32) : Option (Int32 × xG × xA) := (if s1 = s0 then some ((100 + x1), g, a) else Option.bind (f_X12_signAt g a x1) (fun u17 => ck (inB (g 4) 3) (K7 (upd g 4 ((g 4) + 1)) (upA a 6 (upd (a 6) ((g 4) : Int32).toNatClampNeg (u17 - 97))) (x1 + 1))))
def f_X12_readsHead_19 (K7 : xG → xA → Int32 → Option (Int32 × xG × xA)) : Nat → xG → xA → Int32 → Int32 → Int32 → Option (Int32 × xG × xA)
  | 0, _, _, _, _, _ => none
  | n + 1, g, a, x1, x2, x3 => (if (g 4) ≤ x3 then (if x2 = 0 then (if (g 0) = 2 then f_X12_readsHead_81 K7 g a x1 3 (g 4) else f_X12_readsHead_81 K7 g a x1 2 (g 4)) else some ((100 + x1), g, a)) else (if x2 = 0 then ck (inB x3 3) (Option.bind (f_X12_signAt g a x1) (fun u13 => (if (a 6 (x3 : Int32).toNatClampNeg) = (u13 - 97) then f_X12_readsHead_19 K7 n g a x1 1 (x3 + 1) else f_X12_readsHead_19 K7 n g a x1 0 (x3 + 1)))) else f_X12_readsHead_19 K7 n g a x1 1 (x3 + 1)))
theorem e_X12_readsHead_19 (K7 : xG → xA → Int32 → Option (Int32 × xG × xA)) (n : Nat) (g : xG) (a : xA) (x1 : Int32) (x2 : Int32) (x3 : Int32) : f_X12_readsHead_19 K7 (n + 1) g a x1 x2 x3 = (if (g 4) ≤ x3 then (if x2 = 0 then (if (g 0) = 2 then f_X12_readsHead_81 K7 g a x1 3 (g 4) else f_X12_readsHead_81 K7 g a x1 2 (g 4)) else some ((100 + x1), g, a)) else (if x2 = 0 then ck (inB x3 3) (Option.bind (f_X12_signAt g a x1) (fun u13 => (if (a 6 (x3 : Int32).toNatClampNeg) = (u13 - 97) then f_X12_readsHead_19 K7 n g a x1 1 (x3 + 1) else f_X12_readsHead_19 K7 n g a x1 0 (x3 + 1)))) else f_X12_readsHead_19 K7 n g a x1 1 (x3 + 1))) := rfl
def f_X12_readsHead_7 : Nat → xG → xA → Int32 → Option (Int32 × xG × xA)
  | 0, _, _, _ => none
  | n + 1, g, a, x1 => Option.bind (f_X12_isVariable g a x1) (fun u1 => (if u1 = 0 then (if (g 4) ≤ 0 then some ((100 + x1), g, a) else Option.bind (f_X12_signAt g a x1) (fun u5 => (if u5 = 58 then some ((x1 + 1), g, a) else some ((100 + x1), g, a)))) else f_X12_readsHead_19 (f_X12_readsHead_7 n) fu g a x1 0 0))
theorem e_X12_readsHead_7 (n : Nat) (g : xG) (a : xA) (x1 : Int32) : f_X12_readsHead_7 (n + 1) g a x1 = Option.bind (f_X12_isVariable g a x1) (fun u1 => (if u1 = 0 then (if (g 4) ≤ 0 then some ((100 + x1), g, a) else Option.bind (f_X12_signAt g a x1) (fun u5 => (if u5 = 58 then some ((x1 + 1), g, a) else some ((100 + x1), g, a)))) else f_X12_readsHead_19 (f_X12_readsHead_7 n) fu g a x1 0 0)) := rfl
def f_X12_readsHead (g : xG) (a : xA) : Option (Int32 × xG × xA) := f_X12_readsHead_7 fu (upd g 4 0) a 0
set_option maxRecDepth 100000 in
set_option maxHeartbeats 40000000 in
theorem c_X12_readsHead (l : Launch) (E : xE) (g : xG) (a : xA) {res : Int32 × xG × xA} (hf : f_X12_readsHead g a = some res) : xM l E yX12_readsHead cX12_readsHead 4 (some .int) 2 43 [.ref (E.2.1 0)] (wM E g a) (xQi E res.1 (wM E res.2.1 res.2.2)) := by
  unfold f_X12_readsHead at hf
  refine xM_of (by decide) (Nat.le_of_ble_eq_true rfl) ?_
  intro p e s m below meth c A hx hb hr hml hts hown hlocks hA hD hP hK hN hS ls hl
  have hw : ∀ w ∈ BW, w.before _ s = true := fun w h => hts w (List.mem_cons_of_mem _ h)
  have C0 : xCtx E p m c cX12_readsHead 4 s _ RX12 A yX12_readsHead cX12_readsHead 4 (some .int) := ⟨hx, hb, hml, hown, hts, hA, hK, hN⟩
  have hl : lv_has ls 4 [(0, .ref (E.2.1 0))] := hl
  have B81 : ∀ (K7 : xG → xA → Int32 → Option (Int32 × xG × xA)) (hK7 : ∀ (g : xG) (a : xA) (x1 : Int32) (H : Heap) (locs : List Loc) (ls : Array Slot), va_P E.1 vwCl (wM E g a) H → va_S A s.heap H locs → lv_has ls 4 [(0, .ref (E.2.1 0)), (1, .int x1)] → K7 g a x1 = some res → W p l e ({ frames := 2, cells := 0, slots := 0, locals := 43 }) s m ([.ref (E.2.1 0)] : List Value).toArray below meth c H locs 0 0 (MQ below ((xQi E res.1 (wM E res.2.1 res.2.2)) A) ([.ref (E.2.1 0)] : List Value).toArray s 0 0 A) (F0 m 7 ls [])) (g : xG) (a : xA) (x1 : Int32) (s0 : Int32) (s1 : Int32) (H : Heap) (locs : List Loc) (ls : Array Slot), va_P E.1 vwCl (wM E g a) H → va_S A s.heap H locs → lv_has ls 4 [(0, .ref (E.2.1 0)), (1, .int x1)] → f_X12_readsHead_81 K7 g a x1 s0 s1 = some res → W p l e ({ frames := 2, cells := 0, slots := 0, locals := 43 }) s m ([.ref (E.2.1 0)] : List Value).toArray below meth c H locs 0 0 (MQ below ((xQi E res.1 (wM E res.2.1 res.2.2)) A) ([.ref (E.2.1 0)] : List Value).toArray s 0 0 A) (F0 m 81 ls [.int s0, .int s1]) := by
    intro K7 hK7 g a x1 s0 s1 H locs ls hP hS hl hf
    unfold f_X12_readsHead_81 at hf
    refine lv_icmp_ne (tgt := 89) hx hb dX12_readsHead_81 (by decide) (fun c16 => ?_) (fun c16 => ?_)
    · replace hf := (if_neg c16).symm.trans hf
      refine lv_aload_n hx hb dX12_readsHead_89 rfl (lv_at hl 0 rfl) ?_
      refine va_get (C := RX12) (T := TX12) (N := 22) hx hb hw bfX120 hown hK hP 0 (gm_0 E g a) rfl 10 (by decide) (hw _ bw761) (fun _ h9 => h9) rfl dX12_readsHead_90 ?_
      refine lv_aload_n hx hb dX12_readsHead_93 rfl (lv_at hl 0 rfl) ?_
      refine va_get (C := RX12) (T := TX12) (N := 22) hx hb hw bfX120 hown hK hP 0 (gm_0 E g a) rfl 9 (by decide) (hw _ bw930) (fun _ h9 => h9) rfl dX12_readsHead_94 ?_
      refine lv_aload_n hx hb dX12_readsHead_97 rfl (lv_at hl 0 rfl) ?_
      refine lv_iload_n hx hb dX12_readsHead_98 rfl (lv_at hl 1 rfl) ?_
      obtain ⟨u17, e18, hf⟩ := bd_some hf
      refine xci (xRunV (rest := [.int (g 4), .ref (E.2.1 6)]) (As := [.int x1]) (C := RX12) (k := 1) C0 (c_X12_signAt l E g a x1 e18) bw924 bw926 bw778 bw927 bw928 hd_X12_signAt ⟨Nat.le_of_ble_eq_true rfl, Nat.le_of_ble_eq_true rfl⟩ hP (wM_D hD) hS (va_recv hK hP (ci := 12) rfl (gm_0 E g a)) rfl hl.1 rfl (Nat.le_of_ble_eq_true rfl) dX12_readsHead_99 ⟨Nat.zero_le _, Nat.zero_le _⟩) hS (fun H locs hP hS => ?_)
      refine lv_bipush (v := 97) hx hb dX12_readsHead_102 (by decide) ?_
      refine lv_isub hx hb dX12_readsHead_104 ?_
      obtain ⟨k19, hf⟩ := ck_some hf
      refine va_iast hx hb hK hP (wM_D hD) hS 6 0 (gm_6 E g a) rfl (inB_in k19) dX12_readsHead_105 (fun H locs hP _ hS => ?_)
      have hP := xP_eq (sm_a6 E g a (upd (a 6) ((g 4) : Int32).toNatClampNeg (u17 - 97))) hP
      refine lv_aload_n hx hb dX12_readsHead_106 rfl (lv_at hl 0 rfl) ?_
      refine lv_dup hx hb dX12_readsHead_107 rfl ?_
      refine va_get (C := RX12) (T := TX12) (N := 22) hx hb hw bfX120 hown hK hP 0 (gm_0 E g (upA a 6 (upd (a 6) ((g 4) : Int32).toNatClampNeg (u17 - 97)))) rfl 9 (by decide) (hw _ bw930) (fun _ h9 => h9) rfl dX12_readsHead_108 ?_
      refine lv_iconst (v := 1) hx hb dX12_readsHead_111 (by decide) ?_
      refine lv_iadd hx hb dX12_readsHead_112 ?_
      refine va_put (v := .int ((g 4) + 1)) (ty := .int) (C := RX12) (T := TX12) (N := 22) hx hb hw bfX120 tyX12 tyX12_ok nmX12 hown hK hP (wM_D hD) hS 0 (gm_0 E g (upA a 6 (upd (a 6) ((g 4) : Int32).toNatClampNeg (u17 - 97)))) rfl 9 (by decide) (hw _ bw930) (fun _ h9 => h9) rfl (by decide +kernel) rfl rfl (Nat.le_of_ble_eq_true rfl) dX12_readsHead_113 (fun H locs hP _ hS => ?_)
      have hP := xP_eq (sm_g4 E g (upA a 6 (upd (a 6) ((g 4) : Int32).toNatClampNeg (u17 - 97))) ((g 4) + 1)) hP
      refine lv_iinc (v := (x1 + 1)) (lv' := [(1, .int (x1 + 1)), (0, .ref (E.2.1 0))]) hx hb dX12_readsHead_116 hl (k := 1) rfl rfl (by decide) rfl (fun ls hl => ?_)
      refine lv_goto (tgt := 7) hx hb dX12_readsHead_119 (by decide) ?_
      exact hK7 (upd g 4 ((g 4) + 1)) (upA a 6 (upd (a 6) ((g 4) : Int32).toNatClampNeg (u17 - 97))) (x1 + 1) _ _ _ hP hS (lv_sub hl [1, 0] rfl) hf
    · replace hf := (if_pos c16).symm.trans hf
      refine lv_bipush (v := 100) hx hb dX12_readsHead_84 (by decide) ?_
      refine lv_iload_n hx hb dX12_readsHead_86 rfl (lv_at hl 1 rfl) ?_
      refine lv_iadd hx hb dX12_readsHead_87 ?_
      exact xi_retS (fr := (fun r => r.1)) (fw := (fun r => wM E r.2.1 r.2.2)) hx hb hr hlocks (Option.some.inj hf) hP hS dX12_readsHead_88
  have B19 : ∀ (K7 : xG → xA → Int32 → Option (Int32 × xG × xA)) (hK7 : ∀ (g : xG) (a : xA) (x1 : Int32) (H : Heap) (locs : List Loc) (ls : Array Slot), va_P E.1 vwCl (wM E g a) H → va_S A s.heap H locs → lv_has ls 4 [(0, .ref (E.2.1 0)), (1, .int x1)] → K7 g a x1 = some res → W p l e ({ frames := 2, cells := 0, slots := 0, locals := 43 }) s m ([.ref (E.2.1 0)] : List Value).toArray below meth c H locs 0 0 (MQ below ((xQi E res.1 (wM E res.2.1 res.2.2)) A) ([.ref (E.2.1 0)] : List Value).toArray s 0 0 A) (F0 m 7 ls [])) (n : Nat) (g : xG) (a : xA) (x1 : Int32) (x2 : Int32) (x3 : Int32) (H : Heap) (locs : List Loc) (ls : Array Slot), va_P E.1 vwCl (wM E g a) H → va_S A s.heap H locs → lv_has ls 4 [(0, .ref (E.2.1 0)), (1, .int x1), (2, .int x2), (3, .int x3)] → f_X12_readsHead_19 K7 n g a x1 x2 x3 = some res → W p l e ({ frames := 2, cells := 0, slots := 0, locals := 43 }) s m ([.ref (E.2.1 0)] : List Value).toArray below meth c H locs 0 0 (MQ below ((xQi E res.1 (wM E res.2.1 res.2.2)) A) ([.ref (E.2.1 0)] : List Value).toArray s 0 0 A) (F0 m 19 ls []) := by
    intro K7 hK7 n
    induction n with
    | zero => intro g a x1 x2 x3 H locs ls hP hS hl hf; exact absurd (show (none : Option (Int32 × xG × xA)) = some res from hf) (by intro h; cases h)
    | succ n ih =>
      intro g a x1 x2 x3 H locs ls hP hS hl hf
      replace hf := (e_X12_readsHead_19 K7 n g a x1 x2 x3).symm.trans hf
      refine lv_iload_n hx hb dX12_readsHead_19 rfl (lv_at hl 3 rfl) ?_
      refine lv_aload_n hx hb dX12_readsHead_20 rfl (lv_at hl 0 rfl) ?_
      refine va_get (C := RX12) (T := TX12) (N := 22) hx hb hw bfX120 hown hK hP 0 (gm_0 E g a) rfl 9 (by decide) (hw _ bw930) (fun _ h9 => h9) rfl dX12_readsHead_21 ?_
      refine lv_icmp_ge (tgt := 60) hx hb dX12_readsHead_24 (by decide) (fun c8 => ?_) (fun c8 => ?_)
      · replace hf := (if_pos c8).symm.trans hf
        refine lv_iload_n hx hb dX12_readsHead_60 rfl (lv_at hl 2 rfl) ?_
        refine lv_if_ne (tgt := 84) hx hb dX12_readsHead_61 (by decide) (fun c9 => ?_) (fun c9 => ?_)
        · replace hf := (if_neg c9).symm.trans hf
          refine lv_bipush (v := 100) hx hb dX12_readsHead_84 (by decide) ?_
          refine lv_iload_n hx hb dX12_readsHead_86 rfl (lv_at hl 1 rfl) ?_
          refine lv_iadd hx hb dX12_readsHead_87 ?_
          exact xi_retS (fr := (fun r => r.1)) (fw := (fun r => wM E r.2.1 r.2.2)) hx hb hr hlocks (Option.some.inj hf) hP hS dX12_readsHead_88
        · replace hf := (if_pos c9).symm.trans hf
          refine lv_aload_n hx hb dX12_readsHead_64 rfl (lv_at hl 0 rfl) ?_
          refine va_get (C := RX12) (T := TX12) (N := 22) hx hb hw bfX120 hown hK hP 0 (gm_0 E g a) rfl 9 (by decide) (hw _ bw930) (fun _ h9 => h9) rfl dX12_readsHead_65 ?_
          refine lv_aload_n hx hb dX12_readsHead_68 rfl (lv_at hl 0 rfl) ?_
          refine va_get (C := RX12) (T := TX12) (N := 22) hx hb hw bfX120 hown hK hP 0 (gm_0 E g a) rfl 0 (by decide) (hw _ bw755) (fun _ h9 => h9) rfl dX12_readsHead_69 ?_
          refine lv_iconst (v := 2) hx hb dX12_readsHead_72 (by decide) ?_
          refine lv_icmp_ne (tgt := 80) hx hb dX12_readsHead_73 (by decide) (fun c10 => ?_) (fun c10 => ?_)
          · replace hf := (if_neg c10).symm.trans hf
            refine lv_iconst (v := 2) hx hb dX12_readsHead_80 (by decide) ?_
            exact B81 K7 hK7 g a x1 2 (g 4) _ _ _ hP hS (lv_sub hl [0, 1] rfl) hf
          · replace hf := (if_pos c10).symm.trans hf
            refine lv_iconst (v := 3) hx hb dX12_readsHead_76 (by decide) ?_
            refine lv_goto (tgt := 81) hx hb dX12_readsHead_77 (by decide) ?_
            exact B81 K7 hK7 g a x1 3 (g 4) _ _ _ hP hS (lv_sub hl [0, 1] rfl) hf
      · replace hf := (if_neg c8).symm.trans hf
        refine lv_iload_n hx hb dX12_readsHead_27 rfl (lv_at hl 2 rfl) ?_
        refine lv_if_ne (tgt := 48) hx hb dX12_readsHead_28 (by decide) (fun c11 => ?_) (fun c11 => ?_)
        · replace hf := (if_neg c11).symm.trans hf
          refine lv_iconst (v := 1) hx hb dX12_readsHead_48 (by decide) ?_
          refine lv_goto (tgt := 53) hx hb dX12_readsHead_49 (by decide) ?_
          refine lv_istore_n (lv' := [(2, .int 1), (0, .ref (E.2.1 0)), (1, .int x1), (3, .int x3)]) hx hb dX12_readsHead_53 rfl hl (by decide) rfl (fun ls hl => ?_)
          refine lv_iinc (v := (x3 + 1)) (lv' := [(3, .int (x3 + 1)), (2, .int 1), (0, .ref (E.2.1 0)), (1, .int x1)]) hx hb dX12_readsHead_54 hl (k := 3) rfl rfl (by decide) rfl (fun ls hl => ?_)
          refine lv_goto (tgt := 19) hx hb dX12_readsHead_57 (by decide) ?_
          exact ih g a x1 1 (x3 + 1) _ _ _ hP hS (lv_sub hl [2, 3, 1, 0] rfl) hf
        · replace hf := (if_pos c11).symm.trans hf
          refine lv_aload_n hx hb dX12_readsHead_31 rfl (lv_at hl 0 rfl) ?_
          refine va_get (C := RX12) (T := TX12) (N := 22) hx hb hw bfX120 hown hK hP 0 (gm_0 E g a) rfl 10 (by decide) (hw _ bw761) (fun _ h9 => h9) rfl dX12_readsHead_32 ?_
          refine lv_iload_n hx hb dX12_readsHead_35 rfl (lv_at hl 3 rfl) ?_
          obtain ⟨k12, hf⟩ := ck_some hf
          refine va_iald hx hb hK hP 6 0 (gm_6 E g a) rfl (inB_in k12) dX12_readsHead_36 ?_
          refine lv_aload_n hx hb dX12_readsHead_37 rfl (lv_at hl 0 rfl) ?_
          refine lv_iload_n hx hb dX12_readsHead_38 rfl (lv_at hl 1 rfl) ?_
          obtain ⟨u13, e14, hf⟩ := bd_some hf
          refine xci (xRunV (rest := [.int (a 6 (x3 : Int32).toNatClampNeg)]) (As := [.int x1]) (C := RX12) (k := 1) C0 (c_X12_signAt l E g a x1 e14) bw924 bw926 bw778 bw927 bw928 hd_X12_signAt ⟨Nat.le_of_ble_eq_true rfl, Nat.le_of_ble_eq_true rfl⟩ hP (wM_D hD) hS (va_recv hK hP (ci := 12) rfl (gm_0 E g a)) rfl hl.1 rfl (Nat.le_of_ble_eq_true rfl) dX12_readsHead_39 ⟨Nat.zero_le _, Nat.zero_le _⟩) hS (fun H locs hP hS => ?_)
          refine lv_bipush (v := 97) hx hb dX12_readsHead_42 (by decide) ?_
          refine lv_isub hx hb dX12_readsHead_44 ?_
          refine lv_icmp_ne (tgt := 52) hx hb dX12_readsHead_45 (by decide) (fun c15 => ?_) (fun c15 => ?_)
          · replace hf := (if_neg c15).symm.trans hf
            refine lv_iconst (v := 0) hx hb dX12_readsHead_52 (by decide) ?_
            refine lv_istore_n (lv' := [(2, .int 0), (0, .ref (E.2.1 0)), (1, .int x1), (3, .int x3)]) hx hb dX12_readsHead_53 rfl hl (by decide) rfl (fun ls hl => ?_)
            refine lv_iinc (v := (x3 + 1)) (lv' := [(3, .int (x3 + 1)), (2, .int 0), (0, .ref (E.2.1 0)), (1, .int x1)]) hx hb dX12_readsHead_54 hl (k := 3) rfl rfl (by decide) rfl (fun ls hl => ?_)
            refine lv_goto (tgt := 19) hx hb dX12_readsHead_57 (by decide) ?_
            exact ih g a x1 0 (x3 + 1) _ _ _ hP hS (lv_sub hl [2, 3, 1, 0] rfl) hf
          · replace hf := (if_pos c15).symm.trans hf
            refine lv_iconst (v := 1) hx hb dX12_readsHead_48 (by decide) ?_
            refine lv_goto (tgt := 53) hx hb dX12_readsHead_49 (by decide) ?_
            refine lv_istore_n (lv' := [(2, .int 1), (0, .ref (E.2.1 0)), (1, .int x1), (3, .int x3)]) hx hb dX12_readsHead_53 rfl hl (by decide) rfl (fun ls hl => ?_)
            refine lv_iinc (v := (x3 + 1)) (lv' := [(3, .int (x3 + 1)), (2, .int 1), (0, .ref (E.2.1 0)), (1, .int x1)]) hx hb dX12_readsHead_54 hl (k := 3) rfl rfl (by decide) rfl (fun ls hl => ?_)
            refine lv_goto (tgt := 19) hx hb dX12_readsHead_57 (by decide) ?_
            exact ih g a x1 1 (x3 + 1) _ _ _ hP hS (lv_sub hl [2, 3, 1, 0] rfl) hf
  have B7 : ∀ (n : Nat) (g : xG) (a : xA) (x1 : Int32) (H : Heap) (locs : List Loc) (ls : Array Slot), va_P E.1 vwCl (wM E g a) H → va_S A s.heap H locs → lv_has ls 4 [(0, .ref (E.2.1 0)), (1, .int x1)] → f_X12_readsHead_7 n g a x1 = some res → W p l e ({ frames := 2, cells := 0, slots := 0, locals := 43 }) s m ([.ref (E.2.1 0)] : List Value).toArray below meth c H locs 0 0 (MQ below ((xQi E res.1 (wM E res.2.1 res.2.2)) A) ([.ref (E.2.1 0)] : List Value).toArray s 0 0 A) (F0 m 7 ls []) := by
    intro n
    induction n with
    | zero => intro g a x1 H locs ls hP hS hl hf; exact absurd (show (none : Option (Int32 × xG × xA)) = some res from hf) (by intro h; cases h)
    | succ n ih =>
      intro g a x1 H locs ls hP hS hl hf
      replace hf := (e_X12_readsHead_7 n g a x1).symm.trans hf
      refine lv_aload_n hx hb dX12_readsHead_7 rfl (lv_at hl 0 rfl) ?_
      refine lv_iload_n hx hb dX12_readsHead_8 rfl (lv_at hl 1 rfl) ?_
      obtain ⟨u1, e2, hf⟩ := bd_some hf
      refine xci (xRunV (rest := []) (As := [.int x1]) (C := RX12) (k := 1) C0 (c_X12_isVariable l E g a x1 e2) bw925 bw931 bw778 bw932 bw933 hd_X12_isVariable ⟨Nat.le_of_ble_eq_true rfl, Nat.le_of_ble_eq_true rfl⟩ hP (wM_D hD) hS (va_recv hK hP (ci := 12) rfl (gm_0 E g a)) rfl hl.1 rfl (Nat.le_of_ble_eq_true rfl) dX12_readsHead_9 ⟨Nat.zero_le _, Nat.zero_le _⟩) hS (fun H locs hP hS => ?_)
      refine lv_if_eq (tgt := 122) hx hb dX12_readsHead_12 (by decide) (fun c3 => ?_) (fun c3 => ?_)
      · replace hf := (if_pos c3).symm.trans hf
        refine lv_aload_n hx hb dX12_readsHead_122 rfl (lv_at hl 0 rfl) ?_
        refine va_get (C := RX12) (T := TX12) (N := 22) hx hb hw bfX120 hown hK hP 0 (gm_0 E g a) rfl 9 (by decide) (hw _ bw930) (fun _ h9 => h9) rfl dX12_readsHead_123 ?_
        refine lv_if_le (tgt := 145) hx hb dX12_readsHead_126 (by decide) (fun c4 => ?_) (fun c4 => ?_)
        · replace hf := (if_pos c4).symm.trans hf
          refine lv_bipush (v := 100) hx hb dX12_readsHead_145 (by decide) ?_
          refine lv_iload_n hx hb dX12_readsHead_147 rfl (lv_at hl 1 rfl) ?_
          refine lv_iadd hx hb dX12_readsHead_148 ?_
          exact xi_retS (fr := (fun r => r.1)) (fw := (fun r => wM E r.2.1 r.2.2)) hx hb hr hlocks (Option.some.inj hf) hP hS dX12_readsHead_149
        · replace hf := (if_neg c4).symm.trans hf
          refine lv_aload_n hx hb dX12_readsHead_129 rfl (lv_at hl 0 rfl) ?_
          refine lv_iload_n hx hb dX12_readsHead_130 rfl (lv_at hl 1 rfl) ?_
          obtain ⟨u5, e6, hf⟩ := bd_some hf
          refine xci (xRunV (rest := []) (As := [.int x1]) (C := RX12) (k := 1) C0 (c_X12_signAt l E g a x1 e6) bw924 bw926 bw778 bw927 bw928 hd_X12_signAt ⟨Nat.le_of_ble_eq_true rfl, Nat.le_of_ble_eq_true rfl⟩ hP (wM_D hD) hS (va_recv hK hP (ci := 12) rfl (gm_0 E g a)) rfl hl.1 rfl (Nat.le_of_ble_eq_true rfl) dX12_readsHead_131 ⟨Nat.zero_le _, Nat.zero_le _⟩) hS (fun H locs hP hS => ?_)
          refine lv_bipush (v := 58) hx hb dX12_readsHead_134 (by decide) ?_
          refine lv_icmp_ne (tgt := 145) hx hb dX12_readsHead_136 (by decide) (fun c7 => ?_) (fun c7 => ?_)
          · replace hf := (if_neg c7).symm.trans hf
            refine lv_bipush (v := 100) hx hb dX12_readsHead_145 (by decide) ?_
            refine lv_iload_n hx hb dX12_readsHead_147 rfl (lv_at hl 1 rfl) ?_
            refine lv_iadd hx hb dX12_readsHead_148 ?_
            exact xi_retS (fr := (fun r => r.1)) (fw := (fun r => wM E r.2.1 r.2.2)) hx hb hr hlocks (Option.some.inj hf) hP hS dX12_readsHead_149
          · replace hf := (if_pos c7).symm.trans hf
            refine lv_iload_n hx hb dX12_readsHead_139 rfl (lv_at hl 1 rfl) ?_
            refine lv_iconst (v := 1) hx hb dX12_readsHead_140 (by decide) ?_
            refine lv_iadd hx hb dX12_readsHead_141 ?_
            refine lv_goto (tgt := 149) hx hb dX12_readsHead_142 (by decide) ?_
            exact xi_retS (fr := (fun r => r.1)) (fw := (fun r => wM E r.2.1 r.2.2)) hx hb hr hlocks (Option.some.inj hf) hP hS dX12_readsHead_149
      · replace hf := (if_neg c3).symm.trans hf
        refine lv_iconst (v := 0) hx hb dX12_readsHead_15 (by decide) ?_
        refine lv_istore_n (lv' := [(2, .int 0), (0, .ref (E.2.1 0)), (1, .int x1)]) hx hb dX12_readsHead_16 rfl hl (by decide) rfl (fun ls hl => ?_)
        refine lv_iconst (v := 0) hx hb dX12_readsHead_17 (by decide) ?_
        refine lv_istore_n (lv' := [(3, .int 0), (2, .int 0), (0, .ref (E.2.1 0)), (1, .int x1)]) hx hb dX12_readsHead_18 rfl hl (by decide) rfl (fun ls hl => ?_)
        exact B19 (f_X12_readsHead_7 n) ih fu g a x1 0 0 _ _ _ hP hS (lv_sub hl [2, 3, 1, 0] rfl) hf
  refine lv_aload_n hx hb dX12_readsHead_0 rfl (lv_at hl 0 rfl) ?_
  refine lv_iconst (v := 0) hx hb dX12_readsHead_1 (by decide) ?_
  refine va_put (v := .int 0) (ty := .int) (C := RX12) (T := TX12) (N := 22) hx hb hw bfX120 tyX12 tyX12_ok nmX12 hown hK hP (wM_D hD) hS 0 (gm_0 E g a) rfl 9 (by decide) (hw _ bw930) (fun _ h9 => h9) rfl (by decide +kernel) rfl rfl (Nat.le_of_ble_eq_true rfl) dX12_readsHead_2 (fun H locs hP _ hS => ?_)
  have hP := xP_eq (sm_g4 E g a 0) hP
  refine lv_iconst (v := 0) hx hb dX12_readsHead_5 (by decide) ?_
  refine lv_istore_n (lv' := [(1, .int 0), (0, .ref (E.2.1 0))]) hx hb dX12_readsHead_6 rfl hl (by decide) rfl (fun ls hl => ?_)
  exact B7 fu (upd g 4 0) a 0 _ _ _ hP hS (lv_sub hl [1, 0] rfl) hf
def f_X12_readsAtom_226 (g : xG) (K153 : xA → Int32 → Int32 → Int32 → Int32 → Option (Int32 × xA)) (a : xA) (x2 : Int32) (x3 : Int32) (x4 : Int32) (x5 : Int32) (s0 : Int32) (s1 : Int32) : Option (Int32 × xA) := (if s1 = s0 then K153 a x2 x3 (x4 + 1) (x5 + 1) else some ((100 + x4), a))
def f_X12_readsAtom_153 (g : xG) : Nat → xA → Int32 → Int32 → Int32 → Int32 → Option (Int32 × xA)
  | 0, _, _, _, _, _ => none
  | n + 1, a, x2, x3, x4, x5 => ck (inB x3 8) ((if (a 1 (x3 : Int32).toNatClampNeg) ≤ x5 then ck (inB (g 5) 20) (some (x4, (upA a 7 (upd (a 7) ((g 5) : Int32).toNatClampNeg x3)))) else Option.bind (f_X12_isVariable g a x4) (fun u29 => (if u29 = 0 then some ((100 + x4), a) else Option.bind (f_X12_signAt g a x4) (fun u32 => ck (inB (x2 + x5) 60) (Option.bind (f_X12_signAt g (upA a 8 (upd (a 8) ((x2 + x5) : Int32).toNatClampNeg (u32 - 97))) (x4 + 1)) (fun u35 => ck (inB x3 8) ((if (((upA a 8 (upd (a 8) ((x2 + x5) : Int32).toNatClampNeg (u32 - 97))) 1 (x3 : Int32).toNatClampNeg) - 1) ≤ x5 then f_X12_readsAtom_226 g (f_X12_readsAtom_153 g n) (upA a 8 (upd (a 8) ((x2 + x5) : Int32).toNatClampNeg (u32 - 97))) x2 x3 (x4 + 1) x5 41 u35 else f_X12_readsAtom_226 g (f_X12_readsAtom_153 g n) (upA a 8 (upd (a 8) ((x2 + x5) : Int32).toNatClampNeg (u32 - 97))) x2 x3 (x4 + 1) x5 44 u35)))))))))
theorem e_X12_readsAtom_153 (g : xG) (n : Nat) (a : xA) (x2 : Int32) (x3 : Int32) (x4 : Int32) (x5 : Int32) : f_X12_readsAtom_153 g (n + 1) a x2 x3 x4 x5 = ck (inB x3 8) ((if (a 1 (x3 : Int32).toNatClampNeg) ≤ x5 then ck (inB (g 5) 20) (some (x4, (upA a 7 (upd (a 7) ((g 5) : Int32).toNatClampNeg x3)))) else Option.bind (f_X12_isVariable g a x4) (fun u29 => (if u29 = 0 then some ((100 + x4), a) else Option.bind (f_X12_signAt g a x4) (fun u32 => ck (inB (x2 + x5) 60) (Option.bind (f_X12_signAt g (upA a 8 (upd (a 8) ((x2 + x5) : Int32).toNatClampNeg (u32 - 97))) (x4 + 1)) (fun u35 => ck (inB x3 8) ((if (((upA a 8 (upd (a 8) ((x2 + x5) : Int32).toNatClampNeg (u32 - 97))) 1 (x3 : Int32).toNatClampNeg) - 1) ≤ x5 then f_X12_readsAtom_226 g (f_X12_readsAtom_153 g n) (upA a 8 (upd (a 8) ((x2 + x5) : Int32).toNatClampNeg (u32 - 97))) x2 x3 (x4 + 1) x5 41 u35 else f_X12_readsAtom_226 g (f_X12_readsAtom_153 g n) (upA a 8 (upd (a 8) ((x2 + x5) : Int32).toNatClampNeg (u32 - 97))) x2 x3 (x4 + 1) x5 44 u35))))))))) := rfl
def f_X12_readsAtom (g : xG) (a : xA) (v1 : Int32) : Option (Int32 × xA) := Option.bind (f_X12_isVariable g a v1) (fun u1 => (if u1 = 0 then Option.bind (f_X12_signAt g a v1) (fun u4 => (if (t_X12_in g a (u4 - 48) 0 7) = 0 then some ((100 + v1), a) else Option.bind (f_X12_isRelation g a (u4 - 48)) (fun u7 => (if u7 = 0 then some ((100 + v1), a) else Option.bind (f_X12_signAt g a (v1 + 1)) (fun u10 => (if u10 = 40 then f_X12_readsAtom_153 g fu a (3 * (g 5)) (u4 - 48) ((v1 + 1) + 1) 0 else some ((100 + (v1 + 1)), a))))))) else Option.bind (f_X12_signAt g a (v1 + 1)) (fun u13 => (if u13 = 61 then Option.bind (f_X12_isVariable g a (v1 + 2)) (fun u16 => (if u16 = 0 then some ((102 + v1), a) else ck (inB (g 5) 20) (Option.bind (f_X12_signAt g (upA a 7 (upd (a 7) ((g 5) : Int32).toNatClampNeg (-1))) v1) (fun u20 => ck (inB (3 * (g 5)) 60) (Option.bind (f_X12_signAt g (upA (upA a 7 (upd (a 7) ((g 5) : Int32).toNatClampNeg (-1))) 8 (upd ((upA a 7 (upd (a 7) ((g 5) : Int32).toNatClampNeg (-1))) 8) ((3 * (g 5)) : Int32).toNatClampNeg (u20 - 97))) (v1 + 2)) (fun u23 => ck (inB ((3 * (g 5)) + 1) 60) (some ((v1 + 3), (upA (upA (upA a 7 (upd (a 7) ((g 5) : Int32).toNatClampNeg (-1))) 8 (upd ((upA a 7 (upd (a 7) ((g 5) : Int32).toNatClampNeg (-1))) 8) ((3 * (g 5)) : Int32).toNatClampNeg (u20 - 97))) 8 (upd ((upA (upA a 7 (upd (a 7) ((g 5) : Int32).toNatClampNeg (-1))) 8 (upd ((upA a 7 (upd (a 7) ((g 5) : Int32).toNatClampNeg (-1))) 8) ((3 * (g 5)) : Int32).toNatClampNeg (u20 - 97))) 8) (((3 * (g 5)) + 1) : Int32).toNatClampNeg (u23 - 97))))))))))) else some ((101 + v1), a)))))
set_option maxRecDepth 100000 in
set_option maxHeartbeats 40000000 in
theorem c_X12_readsAtom (l : Launch) (E : xE) (g : xG) (a : xA) (v1 : Int32) {res : Int32 × xA} (hf : f_X12_readsAtom g a v1 = some res) : xM l E yX12_readsAtom cX12_readsAtom 6 (some .int) 2 43 [.ref (E.2.1 0), .int v1] (wM E g a) (xQi E res.1 (wM E g res.2)) := by
  unfold f_X12_readsAtom at hf
  refine xM_of (by decide) (Nat.le_of_ble_eq_true rfl) ?_
  intro p e s m below meth c A hx hb hr hml hts hown hlocks hA hD hP hK hN hS ls hl
  have hw : ∀ w ∈ BW, w.before _ s = true := fun w h => hts w (List.mem_cons_of_mem _ h)
  have C0 : xCtx E p m c cX12_readsAtom 6 s _ RX12 A yX12_readsAtom cX12_readsAtom 6 (some .int) := ⟨hx, hb, hml, hown, hts, hA, hK, hN⟩
  have hl : lv_has ls 6 [(0, .ref (E.2.1 0)), (1, .int v1)] := hl
  have B226 : ∀ (K153 : xA → Int32 → Int32 → Int32 → Int32 → Option (Int32 × xA)) (hK153 : ∀ (a : xA) (x2 : Int32) (x3 : Int32) (x4 : Int32) (x5 : Int32) (H : Heap) (locs : List Loc) (ls : Array Slot), va_P E.1 vwCl (wM E g a) H → va_S A s.heap H locs → lv_has ls 6 [(0, .ref (E.2.1 0)), (2, .int x2), (3, .int x3), (4, .int x4), (5, .int x5)] → K153 a x2 x3 x4 x5 = some res → W p l e ({ frames := 2, cells := 0, slots := 0, locals := 43 }) s m ([.ref (E.2.1 0), .int v1] : List Value).toArray below meth c H locs 0 0 (MQ below ((xQi E res.1 (wM E g res.2)) A) ([.ref (E.2.1 0), .int v1] : List Value).toArray s 0 0 A) (F0 m 153 ls [])) (a : xA) (x2 : Int32) (x3 : Int32) (x4 : Int32) (x5 : Int32) (s0 : Int32) (s1 : Int32) (H : Heap) (locs : List Loc) (ls : Array Slot), va_P E.1 vwCl (wM E g a) H → va_S A s.heap H locs → lv_has ls 6 [(0, .ref (E.2.1 0)), (2, .int x2), (3, .int x3), (4, .int x4), (5, .int x5)] → f_X12_readsAtom_226 g K153 a x2 x3 x4 x5 s0 s1 = some res → W p l e ({ frames := 2, cells := 0, slots := 0, locals := 43 }) s m ([.ref (E.2.1 0), .int v1] : List Value).toArray below meth c H locs 0 0 (MQ below ((xQi E res.1 (wM E g res.2)) A) ([.ref (E.2.1 0), .int v1] : List Value).toArray s 0 0 A) (F0 m 226 ls [.int s0, .int s1]) := by
    intro K153 hK153 a x2 x3 x4 x5 s0 s1 H locs ls hP hS hl hf
    unfold f_X12_readsAtom_226 at hf
    refine lv_icmp_eq (tgt := 235) hx hb dX12_readsAtom_226 (by decide) (fun c39 => ?_) (fun c39 => ?_)
    · replace hf := (if_pos c39).symm.trans hf
      refine lv_iinc (v := (x4 + 1)) (lv' := [(4, .int (x4 + 1)), (0, .ref (E.2.1 0)), (2, .int x2), (3, .int x3), (5, .int x5)]) hx hb dX12_readsAtom_235 hl (k := 3) rfl rfl (by decide) rfl (fun ls hl => ?_)
      refine lv_iinc (v := (x5 + 1)) (lv' := [(5, .int (x5 + 1)), (4, .int (x4 + 1)), (0, .ref (E.2.1 0)), (2, .int x2), (3, .int x3)]) hx hb dX12_readsAtom_238 hl (k := 4) rfl rfl (by decide) rfl (fun ls hl => ?_)
      refine lv_goto (tgt := 153) hx hb dX12_readsAtom_241 (by decide) ?_
      exact hK153 a x2 x3 (x4 + 1) (x5 + 1) _ _ _ hP hS (lv_sub hl [2, 3, 4, 1, 0] rfl) hf
    · replace hf := (if_neg c39).symm.trans hf
      refine lv_bipush (v := 100) hx hb dX12_readsAtom_229 (by decide) ?_
      refine lv_iload hx hb dX12_readsAtom_231 (lv_at hl 3 rfl) ?_
      refine lv_iadd hx hb dX12_readsAtom_233 ?_
      exact xi_retS (fr := (fun r => r.1)) (fw := (fun r => wM E g r.2)) hx hb hr hlocks (Option.some.inj hf) hP hS dX12_readsAtom_234
  have B153 : ∀ (n : Nat) (a : xA) (x2 : Int32) (x3 : Int32) (x4 : Int32) (x5 : Int32) (H : Heap) (locs : List Loc) (ls : Array Slot), va_P E.1 vwCl (wM E g a) H → va_S A s.heap H locs → lv_has ls 6 [(0, .ref (E.2.1 0)), (2, .int x2), (3, .int x3), (4, .int x4), (5, .int x5)] → f_X12_readsAtom_153 g n a x2 x3 x4 x5 = some res → W p l e ({ frames := 2, cells := 0, slots := 0, locals := 43 }) s m ([.ref (E.2.1 0), .int v1] : List Value).toArray below meth c H locs 0 0 (MQ below ((xQi E res.1 (wM E g res.2)) A) ([.ref (E.2.1 0), .int v1] : List Value).toArray s 0 0 A) (F0 m 153 ls []) := by
    intro n
    induction n with
    | zero => intro a x2 x3 x4 x5 H locs ls hP hS hl hf; exact absurd (show (none : Option (Int32 × xA)) = some res from hf) (by intro h; cases h)
    | succ n ih =>
      intro a x2 x3 x4 x5 H locs ls hP hS hl hf
      replace hf := (e_X12_readsAtom_153 g n a x2 x3 x4 x5).symm.trans hf
      refine lv_iload hx hb dX12_readsAtom_153 (lv_at hl 4 rfl) ?_
      refine lv_aload_n hx hb dX12_readsAtom_155 rfl (lv_at hl 0 rfl) ?_
      refine va_get (C := RX12) (T := TX12) (N := 22) hx hb hw bfX120 hown hK hP 0 (gm_0 E g a) rfl 2 (by decide) (hw _ bw756) (fun _ h9 => h9) rfl dX12_readsAtom_156 ?_
      refine lv_iload_n hx hb dX12_readsAtom_159 rfl (lv_at hl 2 rfl) ?_
      obtain ⟨k26, hf⟩ := ck_some hf
      refine va_iald hx hb hK hP 1 0 (gm_1 E g a) rfl (inB_in k26) dX12_readsAtom_160 ?_
      refine lv_icmp_ge (tgt := 244) hx hb dX12_readsAtom_161 (by decide) (fun c27 => ?_) (fun c27 => ?_)
      · replace hf := (if_pos c27).symm.trans hf
        refine lv_aload_n hx hb dX12_readsAtom_244 rfl (lv_at hl 0 rfl) ?_
        refine va_get (C := RX12) (T := TX12) (N := 22) hx hb hw bfX120 hown hK hP 0 (gm_0 E g a) rfl 12 (by decide) (hw _ bw762) (fun _ h9 => h9) rfl dX12_readsAtom_245 ?_
        refine lv_aload_n hx hb dX12_readsAtom_248 rfl (lv_at hl 0 rfl) ?_
        refine va_get (C := RX12) (T := TX12) (N := 22) hx hb hw bfX120 hown hK hP 0 (gm_0 E g a) rfl 11 (by decide) (hw _ bw935) (fun _ h9 => h9) rfl dX12_readsAtom_249 ?_
        refine lv_iload_n hx hb dX12_readsAtom_252 rfl (lv_at hl 2 rfl) ?_
        obtain ⟨k28, hf⟩ := ck_some hf
        refine va_iast hx hb hK hP (wM_D hD) hS 7 0 (gm_7 E g a) rfl (inB_in k28) dX12_readsAtom_253 (fun H locs hP _ hS => ?_)
        have hP := xP_eq (sm_a7 E g a (upd (a 7) ((g 5) : Int32).toNatClampNeg x3)) hP
        refine lv_iload hx hb dX12_readsAtom_254 (lv_at hl 3 rfl) ?_
        exact xi_retS (fr := (fun r => r.1)) (fw := (fun r => wM E g r.2)) hx hb hr hlocks (Option.some.inj hf) hP hS dX12_readsAtom_256
      · replace hf := (if_neg c27).symm.trans hf
        refine lv_aload_n hx hb dX12_readsAtom_164 rfl (lv_at hl 0 rfl) ?_
        refine lv_iload hx hb dX12_readsAtom_165 (lv_at hl 3 rfl) ?_
        obtain ⟨u29, e30, hf⟩ := bd_some hf
        refine xci (xRunV (rest := []) (As := [.int x4]) (C := RX12) (k := 1) C0 (c_X12_isVariable l E g a x4 e30) bw925 bw931 bw778 bw932 bw933 hd_X12_isVariable ⟨Nat.le_of_ble_eq_true rfl, Nat.le_of_ble_eq_true rfl⟩ hP (wM_D hD) hS (va_recv hK hP (ci := 12) rfl (gm_0 E g a)) rfl hl.1 rfl (Nat.le_of_ble_eq_true rfl) dX12_readsAtom_167 ⟨Nat.zero_le _, Nat.zero_le _⟩) hS (fun H locs hP hS => ?_)
        refine lv_if_ne (tgt := 179) hx hb dX12_readsAtom_170 (by decide) (fun c31 => ?_) (fun c31 => ?_)
        · replace hf := (if_neg c31).symm.trans hf
          refine lv_aload_n hx hb dX12_readsAtom_179 rfl (lv_at hl 0 rfl) ?_
          refine va_get (C := RX12) (T := TX12) (N := 22) hx hb hw bfX120 hown hK hP 0 (gm_0 E g a) rfl 13 (by decide) (hw _ bw763) (fun _ h9 => h9) rfl dX12_readsAtom_180 ?_
          refine lv_iload_n hx hb dX12_readsAtom_183 rfl (lv_at hl 1 rfl) ?_
          refine lv_iload hx hb dX12_readsAtom_184 (lv_at hl 4 rfl) ?_
          refine lv_iadd hx hb dX12_readsAtom_186 ?_
          refine lv_aload_n hx hb dX12_readsAtom_187 rfl (lv_at hl 0 rfl) ?_
          refine lv_iload hx hb dX12_readsAtom_188 (lv_at hl 3 rfl) ?_
          obtain ⟨u32, e33, hf⟩ := bd_some hf
          refine xci (xRunV (rest := [.int (x2 + x5), .ref (E.2.1 8)]) (As := [.int x4]) (C := RX12) (k := 1) C0 (c_X12_signAt l E g a x4 e33) bw924 bw926 bw778 bw927 bw928 hd_X12_signAt ⟨Nat.le_of_ble_eq_true rfl, Nat.le_of_ble_eq_true rfl⟩ hP (wM_D hD) hS (va_recv hK hP (ci := 12) rfl (gm_0 E g a)) rfl hl.1 rfl (Nat.le_of_ble_eq_true rfl) dX12_readsAtom_190 ⟨Nat.zero_le _, Nat.zero_le _⟩) hS (fun H locs hP hS => ?_)
          refine lv_bipush (v := 97) hx hb dX12_readsAtom_193 (by decide) ?_
          refine lv_isub hx hb dX12_readsAtom_195 ?_
          obtain ⟨k34, hf⟩ := ck_some hf
          refine va_iast hx hb hK hP (wM_D hD) hS 8 0 (gm_8 E g a) rfl (inB_in k34) dX12_readsAtom_196 (fun H locs hP _ hS => ?_)
          have hP := xP_eq (sm_a8 E g a (upd (a 8) ((x2 + x5) : Int32).toNatClampNeg (u32 - 97))) hP
          refine lv_iinc (v := (x4 + 1)) (lv' := [(4, .int (x4 + 1)), (0, .ref (E.2.1 0)), (2, .int x2), (3, .int x3), (5, .int x5)]) hx hb dX12_readsAtom_197 hl (k := 3) rfl rfl (by decide) rfl (fun ls hl => ?_)
          refine lv_aload_n hx hb dX12_readsAtom_200 rfl (lv_at hl 1 rfl) ?_
          refine lv_iload hx hb dX12_readsAtom_201 (lv_at hl 0 rfl) ?_
          obtain ⟨u35, e36, hf⟩ := bd_some hf
          refine xci (xRunV (rest := []) (As := [.int (x4 + 1)]) (C := RX12) (k := 1) C0 (c_X12_signAt l E g (upA a 8 (upd (a 8) ((x2 + x5) : Int32).toNatClampNeg (u32 - 97))) (x4 + 1) e36) bw924 bw926 bw778 bw927 bw928 hd_X12_signAt ⟨Nat.le_of_ble_eq_true rfl, Nat.le_of_ble_eq_true rfl⟩ hP (wM_D hD) hS (va_recv hK hP (ci := 12) rfl (gm_0 E g (upA a 8 (upd (a 8) ((x2 + x5) : Int32).toNatClampNeg (u32 - 97))))) rfl hl.1 rfl (Nat.le_of_ble_eq_true rfl) dX12_readsAtom_203 ⟨Nat.zero_le _, Nat.zero_le _⟩) hS (fun H locs hP hS => ?_)
          refine lv_iload hx hb dX12_readsAtom_206 (lv_at hl 4 rfl) ?_
          refine lv_aload_n hx hb dX12_readsAtom_208 rfl (lv_at hl 1 rfl) ?_
          refine va_get (C := RX12) (T := TX12) (N := 22) hx hb hw bfX120 hown hK hP 0 (gm_0 E g (upA a 8 (upd (a 8) ((x2 + x5) : Int32).toNatClampNeg (u32 - 97)))) rfl 2 (by decide) (hw _ bw756) (fun _ h9 => h9) rfl dX12_readsAtom_209 ?_
          refine lv_iload_n hx hb dX12_readsAtom_212 rfl (lv_at hl 3 rfl) ?_
          obtain ⟨k37, hf⟩ := ck_some hf
          refine va_iald hx hb hK hP 1 0 (gm_1 E g (upA a 8 (upd (a 8) ((x2 + x5) : Int32).toNatClampNeg (u32 - 97)))) rfl (inB_in k37) dX12_readsAtom_213 ?_
          refine lv_iconst (v := 1) hx hb dX12_readsAtom_214 (by decide) ?_
          refine lv_isub hx hb dX12_readsAtom_215 ?_
          refine lv_icmp_ge (tgt := 224) hx hb dX12_readsAtom_216 (by decide) (fun c38 => ?_) (fun c38 => ?_)
          · replace hf := (if_pos c38).symm.trans hf
            refine lv_bipush (v := 41) hx hb dX12_readsAtom_224 (by decide) ?_
            exact B226 (f_X12_readsAtom_153 g n) ih (upA a 8 (upd (a 8) ((x2 + x5) : Int32).toNatClampNeg (u32 - 97))) x2 x3 (x4 + 1) x5 41 u35 _ _ _ hP hS (lv_sub hl [1, 2, 3, 0, 4] rfl) hf
          · replace hf := (if_neg c38).symm.trans hf
            refine lv_bipush (v := 44) hx hb dX12_readsAtom_219 (by decide) ?_
            refine lv_goto (tgt := 226) hx hb dX12_readsAtom_221 (by decide) ?_
            exact B226 (f_X12_readsAtom_153 g n) ih (upA a 8 (upd (a 8) ((x2 + x5) : Int32).toNatClampNeg (u32 - 97))) x2 x3 (x4 + 1) x5 44 u35 _ _ _ hP hS (lv_sub hl [1, 2, 3, 0, 4] rfl) hf
        · replace hf := (if_pos c31).symm.trans hf
          refine lv_bipush (v := 100) hx hb dX12_readsAtom_173 (by decide) ?_
          refine lv_iload hx hb dX12_readsAtom_175 (lv_at hl 3 rfl) ?_
          refine lv_iadd hx hb dX12_readsAtom_177 ?_
          exact xi_retS (fr := (fun r => r.1)) (fw := (fun r => wM E g r.2)) hx hb hr hlocks (Option.some.inj hf) hP hS dX12_readsAtom_178
  refine lv_iconst (v := 3) hx hb dX12_readsAtom_0 (by decide) ?_
  refine lv_aload_n hx hb dX12_readsAtom_1 rfl (lv_at hl 0 rfl) ?_
  refine va_get (C := RX12) (T := TX12) (N := 22) hx hb hw bfX120 hown hK hP 0 (gm_0 E g a) rfl 11 (by decide) (hw _ bw935) (fun _ h9 => h9) rfl dX12_readsAtom_2 ?_
  refine lv_imul hx hb dX12_readsAtom_5 ?_
  refine lv_istore_n (lv' := [(2, .int (3 * (g 5))), (0, .ref (E.2.1 0)), (1, .int v1)]) hx hb dX12_readsAtom_6 rfl hl (by decide) rfl (fun ls hl => ?_)
  refine lv_aload_n hx hb dX12_readsAtom_7 rfl (lv_at hl 1 rfl) ?_
  refine lv_iload_n hx hb dX12_readsAtom_8 rfl (lv_at hl 2 rfl) ?_
  obtain ⟨u1, e2, hf⟩ := bd_some hf
  refine xci (xRunV (rest := []) (As := [.int v1]) (C := RX12) (k := 1) C0 (c_X12_isVariable l E g a v1 e2) bw925 bw931 bw778 bw932 bw933 hd_X12_isVariable ⟨Nat.le_of_ble_eq_true rfl, Nat.le_of_ble_eq_true rfl⟩ hP (wM_D hD) hS (va_recv hK hP (ci := 12) rfl (gm_0 E g a)) rfl hl.1 rfl (Nat.le_of_ble_eq_true rfl) dX12_readsAtom_9 ⟨Nat.zero_le _, Nat.zero_le _⟩) hS (fun H locs hP hS => ?_)
  refine lv_if_eq (tgt := 93) hx hb dX12_readsAtom_12 (by decide) (fun c3 => ?_) (fun c3 => ?_)
  · replace hf := (if_pos c3).symm.trans hf
    refine lv_aload_n hx hb dX12_readsAtom_93 rfl (lv_at hl 1 rfl) ?_
    refine lv_iload_n hx hb dX12_readsAtom_94 rfl (lv_at hl 2 rfl) ?_
    obtain ⟨u4, e5, hf⟩ := bd_some hf
    refine xci (xRunV (rest := []) (As := [.int v1]) (C := RX12) (k := 1) C0 (c_X12_signAt l E g a v1 e5) bw924 bw926 bw778 bw927 bw928 hd_X12_signAt ⟨Nat.le_of_ble_eq_true rfl, Nat.le_of_ble_eq_true rfl⟩ hP (wM_D hD) hS (va_recv hK hP (ci := 12) rfl (gm_0 E g a)) rfl hl.1 rfl (Nat.le_of_ble_eq_true rfl) dX12_readsAtom_95 ⟨Nat.zero_le _, Nat.zero_le _⟩) hS (fun H locs hP hS => ?_)
    refine lv_bipush (v := 48) hx hb dX12_readsAtom_98 (by decide) ?_
    refine lv_isub hx hb dX12_readsAtom_100 ?_
    refine lv_istore_n (lv' := [(3, .int (u4 - 48)), (2, .int (3 * (g 5))), (0, .ref (E.2.1 0)), (1, .int v1)]) hx hb dX12_readsAtom_101 rfl hl (by decide) rfl (fun ls hl => ?_)
    refine lv_iload_n hx hb dX12_readsAtom_102 rfl (lv_at hl 0 rfl) ?_
    refine lv_iconst (v := 0) hx hb dX12_readsAtom_103 (by decide) ?_
    refine lv_bipush (v := 7) hx hb dX12_readsAtom_104 (by decide) ?_
    refine xci (xRunS (rest := []) (As := [.int (u4 - 48), .int 0, .int 7]) (k := 3) C0 (c_X12_in l E g a (u4 - 48) 0 7) bw772 bw785 bw778 bw786 hd_X12_in ⟨Nat.le_of_ble_eq_true rfl, Nat.le_of_ble_eq_true rfl⟩ hP (wM_D hD) hS rfl hl.1 rfl (Nat.le_of_ble_eq_true rfl) dX12_readsAtom_106 ⟨Nat.zero_le _, Nat.zero_le _⟩) hS (fun H locs hP hS => ?_)
    refine lv_if_eq (tgt := 120) hx hb dX12_readsAtom_109 (by decide) (fun c6 => ?_) (fun c6 => ?_)
    · replace hf := (if_pos c6).symm.trans hf
      refine lv_bipush (v := 100) hx hb dX12_readsAtom_120 (by decide) ?_
      refine lv_iload_n hx hb dX12_readsAtom_122 rfl (lv_at hl 3 rfl) ?_
      refine lv_iadd hx hb dX12_readsAtom_123 ?_
      exact xi_retS (fr := (fun r => r.1)) (fw := (fun r => wM E g r.2)) hx hb hr hlocks (Option.some.inj hf) hP hS dX12_readsAtom_124
    · replace hf := (if_neg c6).symm.trans hf
      refine lv_aload_n hx hb dX12_readsAtom_112 rfl (lv_at hl 2 rfl) ?_
      refine lv_iload_n hx hb dX12_readsAtom_113 rfl (lv_at hl 0 rfl) ?_
      obtain ⟨u7, e8, hf⟩ := bd_some hf
      refine xci (xRunV (rest := []) (As := [.int (u4 - 48)]) (C := RX12) (k := 1) C0 (c_X12_isRelation l E g a (u4 - 48) e8) bw788 bw790 bw778 bw791 bw792 hd_X12_isRelation ⟨Nat.le_of_ble_eq_true rfl, Nat.le_of_ble_eq_true rfl⟩ hP (wM_D hD) hS (va_recv hK hP (ci := 12) rfl (gm_0 E g a)) rfl hl.1 rfl (Nat.le_of_ble_eq_true rfl) dX12_readsAtom_114 ⟨Nat.zero_le _, Nat.zero_le _⟩) hS (fun H locs hP hS => ?_)
      refine lv_if_ne (tgt := 125) hx hb dX12_readsAtom_117 (by decide) (fun c9 => ?_) (fun c9 => ?_)
      · replace hf := (if_neg c9).symm.trans hf
        refine lv_iload_n hx hb dX12_readsAtom_125 rfl (lv_at hl 3 rfl) ?_
        refine lv_iconst (v := 1) hx hb dX12_readsAtom_126 (by decide) ?_
        refine lv_iadd hx hb dX12_readsAtom_127 ?_
        refine lv_istore (lv' := [(4, .int (v1 + 1)), (3, .int (u4 - 48)), (2, .int (3 * (g 5))), (0, .ref (E.2.1 0)), (1, .int v1)]) hx hb dX12_readsAtom_128 hl (by decide) rfl (fun ls hl => ?_)
        refine lv_aload_n hx hb dX12_readsAtom_130 rfl (lv_at hl 3 rfl) ?_
        refine lv_iload hx hb dX12_readsAtom_131 (lv_at hl 0 rfl) ?_
        obtain ⟨u10, e11, hf⟩ := bd_some hf
        refine xci (xRunV (rest := []) (As := [.int (v1 + 1)]) (C := RX12) (k := 1) C0 (c_X12_signAt l E g a (v1 + 1) e11) bw924 bw926 bw778 bw927 bw928 hd_X12_signAt ⟨Nat.le_of_ble_eq_true rfl, Nat.le_of_ble_eq_true rfl⟩ hP (wM_D hD) hS (va_recv hK hP (ci := 12) rfl (gm_0 E g a)) rfl hl.1 rfl (Nat.le_of_ble_eq_true rfl) dX12_readsAtom_133 ⟨Nat.zero_le _, Nat.zero_le _⟩) hS (fun H locs hP hS => ?_)
        refine lv_bipush (v := 40) hx hb dX12_readsAtom_136 (by decide) ?_
        refine lv_icmp_eq (tgt := 147) hx hb dX12_readsAtom_138 (by decide) (fun c12 => ?_) (fun c12 => ?_)
        · replace hf := (if_pos c12).symm.trans hf
          refine lv_iinc (v := ((v1 + 1) + 1)) (lv' := [(4, .int ((v1 + 1) + 1)), (3, .int (u4 - 48)), (2, .int (3 * (g 5))), (0, .ref (E.2.1 0)), (1, .int v1)]) hx hb dX12_readsAtom_147 hl (k := 0) rfl rfl (by decide) rfl (fun ls hl => ?_)
          refine lv_iconst (v := 0) hx hb dX12_readsAtom_150 (by decide) ?_
          refine lv_istore (lv' := [(5, .int 0), (4, .int ((v1 + 1) + 1)), (3, .int (u4 - 48)), (2, .int (3 * (g 5))), (0, .ref (E.2.1 0)), (1, .int v1)]) hx hb dX12_readsAtom_151 hl (by decide) rfl (fun ls hl => ?_)
          exact B153 fu a (3 * (g 5)) (u4 - 48) ((v1 + 1) + 1) 0 _ _ _ hP hS (lv_sub hl [4, 3, 2, 1, 0] rfl) hf
        · replace hf := (if_neg c12).symm.trans hf
          refine lv_bipush (v := 100) hx hb dX12_readsAtom_141 (by decide) ?_
          refine lv_iload hx hb dX12_readsAtom_143 (lv_at hl 0 rfl) ?_
          refine lv_iadd hx hb dX12_readsAtom_145 ?_
          exact xi_retS (fr := (fun r => r.1)) (fw := (fun r => wM E g r.2)) hx hb hr hlocks (Option.some.inj hf) hP hS dX12_readsAtom_146
      · replace hf := (if_pos c9).symm.trans hf
        refine lv_bipush (v := 100) hx hb dX12_readsAtom_120 (by decide) ?_
        refine lv_iload_n hx hb dX12_readsAtom_122 rfl (lv_at hl 3 rfl) ?_
        refine lv_iadd hx hb dX12_readsAtom_123 ?_
        exact xi_retS (fr := (fun r => r.1)) (fw := (fun r => wM E g r.2)) hx hb hr hlocks (Option.some.inj hf) hP hS dX12_readsAtom_124
  · replace hf := (if_neg c3).symm.trans hf
    refine lv_aload_n hx hb dX12_readsAtom_15 rfl (lv_at hl 1 rfl) ?_
    refine lv_iload_n hx hb dX12_readsAtom_16 rfl (lv_at hl 2 rfl) ?_
    refine lv_iconst (v := 1) hx hb dX12_readsAtom_17 (by decide) ?_
    refine lv_iadd hx hb dX12_readsAtom_18 ?_
    obtain ⟨u13, e14, hf⟩ := bd_some hf
    refine xci (xRunV (rest := []) (As := [.int (v1 + 1)]) (C := RX12) (k := 1) C0 (c_X12_signAt l E g a (v1 + 1) e14) bw924 bw926 bw778 bw927 bw928 hd_X12_signAt ⟨Nat.le_of_ble_eq_true rfl, Nat.le_of_ble_eq_true rfl⟩ hP (wM_D hD) hS (va_recv hK hP (ci := 12) rfl (gm_0 E g a)) rfl hl.1 rfl (Nat.le_of_ble_eq_true rfl) dX12_readsAtom_19 ⟨Nat.zero_le _, Nat.zero_le _⟩) hS (fun H locs hP hS => ?_)
    refine lv_bipush (v := 61) hx hb dX12_readsAtom_22 (by decide) ?_
    refine lv_icmp_eq (tgt := 32) hx hb dX12_readsAtom_24 (by decide) (fun c15 => ?_) (fun c15 => ?_)
    · replace hf := (if_pos c15).symm.trans hf
      refine lv_aload_n hx hb dX12_readsAtom_32 rfl (lv_at hl 1 rfl) ?_
      refine lv_iload_n hx hb dX12_readsAtom_33 rfl (lv_at hl 2 rfl) ?_
      refine lv_iconst (v := 2) hx hb dX12_readsAtom_34 (by decide) ?_
      refine lv_iadd hx hb dX12_readsAtom_35 ?_
      obtain ⟨u16, e17, hf⟩ := bd_some hf
      refine xci (xRunV (rest := []) (As := [.int (v1 + 2)]) (C := RX12) (k := 1) C0 (c_X12_isVariable l E g a (v1 + 2) e17) bw925 bw931 bw778 bw932 bw933 hd_X12_isVariable ⟨Nat.le_of_ble_eq_true rfl, Nat.le_of_ble_eq_true rfl⟩ hP (wM_D hD) hS (va_recv hK hP (ci := 12) rfl (gm_0 E g a)) rfl hl.1 rfl (Nat.le_of_ble_eq_true rfl) dX12_readsAtom_36 ⟨Nat.zero_le _, Nat.zero_le _⟩) hS (fun H locs hP hS => ?_)
      refine lv_if_ne (tgt := 47) hx hb dX12_readsAtom_39 (by decide) (fun c18 => ?_) (fun c18 => ?_)
      · replace hf := (if_neg c18).symm.trans hf
        refine lv_aload_n hx hb dX12_readsAtom_47 rfl (lv_at hl 1 rfl) ?_
        refine va_get (C := RX12) (T := TX12) (N := 22) hx hb hw bfX120 hown hK hP 0 (gm_0 E g a) rfl 12 (by decide) (hw _ bw762) (fun _ h9 => h9) rfl dX12_readsAtom_48 ?_
        refine lv_aload_n hx hb dX12_readsAtom_51 rfl (lv_at hl 1 rfl) ?_
        refine va_get (C := RX12) (T := TX12) (N := 22) hx hb hw bfX120 hown hK hP 0 (gm_0 E g a) rfl 11 (by decide) (hw _ bw935) (fun _ h9 => h9) rfl dX12_readsAtom_52 ?_
        refine lv_iconst (v := (-1)) hx hb dX12_readsAtom_55 (by decide) ?_
        obtain ⟨k19, hf⟩ := ck_some hf
        refine va_iast hx hb hK hP (wM_D hD) hS 7 0 (gm_7 E g a) rfl (inB_in k19) dX12_readsAtom_56 (fun H locs hP _ hS => ?_)
        have hP := xP_eq (sm_a7 E g a (upd (a 7) ((g 5) : Int32).toNatClampNeg (-1))) hP
        refine lv_aload_n hx hb dX12_readsAtom_57 rfl (lv_at hl 1 rfl) ?_
        refine va_get (C := RX12) (T := TX12) (N := 22) hx hb hw bfX120 hown hK hP 0 (gm_0 E g (upA a 7 (upd (a 7) ((g 5) : Int32).toNatClampNeg (-1)))) rfl 13 (by decide) (hw _ bw763) (fun _ h9 => h9) rfl dX12_readsAtom_58 ?_
        refine lv_iload_n hx hb dX12_readsAtom_61 rfl (lv_at hl 0 rfl) ?_
        refine lv_aload_n hx hb dX12_readsAtom_62 rfl (lv_at hl 1 rfl) ?_
        refine lv_iload_n hx hb dX12_readsAtom_63 rfl (lv_at hl 2 rfl) ?_
        obtain ⟨u20, e21, hf⟩ := bd_some hf
        refine xci (xRunV (rest := [.int (3 * (g 5)), .ref (E.2.1 8)]) (As := [.int v1]) (C := RX12) (k := 1) C0 (c_X12_signAt l E g (upA a 7 (upd (a 7) ((g 5) : Int32).toNatClampNeg (-1))) v1 e21) bw924 bw926 bw778 bw927 bw928 hd_X12_signAt ⟨Nat.le_of_ble_eq_true rfl, Nat.le_of_ble_eq_true rfl⟩ hP (wM_D hD) hS (va_recv hK hP (ci := 12) rfl (gm_0 E g (upA a 7 (upd (a 7) ((g 5) : Int32).toNatClampNeg (-1))))) rfl hl.1 rfl (Nat.le_of_ble_eq_true rfl) dX12_readsAtom_64 ⟨Nat.zero_le _, Nat.zero_le _⟩) hS (fun H locs hP hS => ?_)
        refine lv_bipush (v := 97) hx hb dX12_readsAtom_67 (by decide) ?_
        refine lv_isub hx hb dX12_readsAtom_69 ?_
        obtain ⟨k22, hf⟩ := ck_some hf
        refine va_iast hx hb hK hP (wM_D hD) hS 8 0 (gm_8 E g (upA a 7 (upd (a 7) ((g 5) : Int32).toNatClampNeg (-1)))) rfl (inB_in k22) dX12_readsAtom_70 (fun H locs hP _ hS => ?_)
        have hP := xP_eq (sm_a8 E g (upA a 7 (upd (a 7) ((g 5) : Int32).toNatClampNeg (-1))) (upd ((upA a 7 (upd (a 7) ((g 5) : Int32).toNatClampNeg (-1))) 8) ((3 * (g 5)) : Int32).toNatClampNeg (u20 - 97))) hP
        refine lv_aload_n hx hb dX12_readsAtom_71 rfl (lv_at hl 1 rfl) ?_
        refine va_get (C := RX12) (T := TX12) (N := 22) hx hb hw bfX120 hown hK hP 0 (gm_0 E g (upA (upA a 7 (upd (a 7) ((g 5) : Int32).toNatClampNeg (-1))) 8 (upd ((upA a 7 (upd (a 7) ((g 5) : Int32).toNatClampNeg (-1))) 8) ((3 * (g 5)) : Int32).toNatClampNeg (u20 - 97)))) rfl 13 (by decide) (hw _ bw763) (fun _ h9 => h9) rfl dX12_readsAtom_72 ?_
        refine lv_iload_n hx hb dX12_readsAtom_75 rfl (lv_at hl 0 rfl) ?_
        refine lv_iconst (v := 1) hx hb dX12_readsAtom_76 (by decide) ?_
        refine lv_iadd hx hb dX12_readsAtom_77 ?_
        refine lv_aload_n hx hb dX12_readsAtom_78 rfl (lv_at hl 1 rfl) ?_
        refine lv_iload_n hx hb dX12_readsAtom_79 rfl (lv_at hl 2 rfl) ?_
        refine lv_iconst (v := 2) hx hb dX12_readsAtom_80 (by decide) ?_
        refine lv_iadd hx hb dX12_readsAtom_81 ?_
        obtain ⟨u23, e24, hf⟩ := bd_some hf
        refine xci (xRunV (rest := [.int ((3 * (g 5)) + 1), .ref (E.2.1 8)]) (As := [.int (v1 + 2)]) (C := RX12) (k := 1) C0 (c_X12_signAt l E g (upA (upA a 7 (upd (a 7) ((g 5) : Int32).toNatClampNeg (-1))) 8 (upd ((upA a 7 (upd (a 7) ((g 5) : Int32).toNatClampNeg (-1))) 8) ((3 * (g 5)) : Int32).toNatClampNeg (u20 - 97))) (v1 + 2) e24) bw924 bw926 bw778 bw927 bw928 hd_X12_signAt ⟨Nat.le_of_ble_eq_true rfl, Nat.le_of_ble_eq_true rfl⟩ hP (wM_D hD) hS (va_recv hK hP (ci := 12) rfl (gm_0 E g (upA (upA a 7 (upd (a 7) ((g 5) : Int32).toNatClampNeg (-1))) 8 (upd ((upA a 7 (upd (a 7) ((g 5) : Int32).toNatClampNeg (-1))) 8) ((3 * (g 5)) : Int32).toNatClampNeg (u20 - 97))))) rfl hl.1 rfl (Nat.le_of_ble_eq_true rfl) dX12_readsAtom_82 ⟨Nat.zero_le _, Nat.zero_le _⟩) hS (fun H locs hP hS => ?_)
        refine lv_bipush (v := 97) hx hb dX12_readsAtom_85 (by decide) ?_
        refine lv_isub hx hb dX12_readsAtom_87 ?_
        obtain ⟨k25, hf⟩ := ck_some hf
        refine va_iast hx hb hK hP (wM_D hD) hS 8 0 (gm_8 E g (upA (upA a 7 (upd (a 7) ((g 5) : Int32).toNatClampNeg (-1))) 8 (upd ((upA a 7 (upd (a 7) ((g 5) : Int32).toNatClampNeg (-1))) 8) ((3 * (g 5)) : Int32).toNatClampNeg (u20 - 97)))) rfl (inB_in k25) dX12_readsAtom_88 (fun H locs hP _ hS => ?_)
        have hP := xP_eq (sm_a8 E g (upA (upA a 7 (upd (a 7) ((g 5) : Int32).toNatClampNeg (-1))) 8 (upd ((upA a 7 (upd (a 7) ((g 5) : Int32).toNatClampNeg (-1))) 8) ((3 * (g 5)) : Int32).toNatClampNeg (u20 - 97))) (upd ((upA (upA a 7 (upd (a 7) ((g 5) : Int32).toNatClampNeg (-1))) 8 (upd ((upA a 7 (upd (a 7) ((g 5) : Int32).toNatClampNeg (-1))) 8) ((3 * (g 5)) : Int32).toNatClampNeg (u20 - 97))) 8) (((3 * (g 5)) + 1) : Int32).toNatClampNeg (u23 - 97))) hP
        refine lv_iload_n hx hb dX12_readsAtom_89 rfl (lv_at hl 2 rfl) ?_
        refine lv_iconst (v := 3) hx hb dX12_readsAtom_90 (by decide) ?_
        refine lv_iadd hx hb dX12_readsAtom_91 ?_
        exact xi_retS (fr := (fun r => r.1)) (fw := (fun r => wM E g r.2)) hx hb hr hlocks (Option.some.inj hf) hP hS dX12_readsAtom_92
      · replace hf := (if_pos c18).symm.trans hf
        refine lv_bipush (v := 102) hx hb dX12_readsAtom_42 (by decide) ?_
        refine lv_iload_n hx hb dX12_readsAtom_44 rfl (lv_at hl 2 rfl) ?_
        refine lv_iadd hx hb dX12_readsAtom_45 ?_
        exact xi_retS (fr := (fun r => r.1)) (fw := (fun r => wM E g r.2)) hx hb hr hlocks (Option.some.inj hf) hP hS dX12_readsAtom_46
    · replace hf := (if_neg c15).symm.trans hf
      refine lv_bipush (v := 101) hx hb dX12_readsAtom_27 (by decide) ?_
      refine lv_iload_n hx hb dX12_readsAtom_29 rfl (lv_at hl 2 rfl) ?_
      refine lv_iadd hx hb dX12_readsAtom_30 ?_
      exact xi_retS (fr := (fun r => r.1)) (fw := (fun r => wM E g r.2)) hx hb hr hlocks (Option.some.inj hf) hP hS dX12_readsAtom_31
def f_X12_reads_10 : Nat → xG → xA → Int32 → Option (Int32 × xG × xA)
  | 0, _, _, _ => none
  | n + 1, g, a, x1 => (if 100 ≤ x1 then some ((x1 - 100), g, a) else Option.bind (f_X12_readsAtom g a x1) (fun u4 => (if 100 ≤ u4.1 then f_X12_reads_10 n g u4.2 u4.1 else (if u4.1 = ((upd g 5 ((g 5) + 1)) 3) then some ((-1), (upd g 5 ((g 5) + 1)), u4.2) else Option.bind (f_X12_signAt (upd g 5 ((g 5) + 1)) u4.2 u4.1) (fun u8 => (if u8 = 38 then f_X12_reads_10 n (upd g 5 ((g 5) + 1)) u4.2 (u4.1 + 1) else f_X12_reads_10 n (upd g 5 ((g 5) + 1)) u4.2 (100 + u4.1)))))))
theorem e_X12_reads_10 (n : Nat) (g : xG) (a : xA) (x1 : Int32) : f_X12_reads_10 (n + 1) g a x1 = (if 100 ≤ x1 then some ((x1 - 100), g, a) else Option.bind (f_X12_readsAtom g a x1) (fun u4 => (if 100 ≤ u4.1 then f_X12_reads_10 n g u4.2 u4.1 else (if u4.1 = ((upd g 5 ((g 5) + 1)) 3) then some ((-1), (upd g 5 ((g 5) + 1)), u4.2) else Option.bind (f_X12_signAt (upd g 5 ((g 5) + 1)) u4.2 u4.1) (fun u8 => (if u8 = 38 then f_X12_reads_10 n (upd g 5 ((g 5) + 1)) u4.2 (u4.1 + 1) else f_X12_reads_10 n (upd g 5 ((g 5) + 1)) u4.2 (100 + u4.1))))))) := rfl
def f_X12_reads (g : xG) (a : xA) : Option (Int32 × xG × xA) := Option.bind (f_X12_readsHead (upd g 5 0) a) (fun u1 => f_X12_reads_10 fu u1.2.1 u1.2.2 u1.1)
set_option maxRecDepth 100000 in
set_option maxHeartbeats 40000000 in
theorem c_X12_reads (l : Launch) (E : xE) (g : xG) (a : xA) {res : Int32 × xG × xA} (hf : f_X12_reads g a = some res) : xM l E yX12_reads cX12_reads 2 (some .int) 3 68 [.ref (E.2.1 0)] (wM E g a) (xQi E res.1 (wM E res.2.1 res.2.2)) := by
  unfold f_X12_reads at hf
  refine xM_of (by decide) (Nat.le_of_ble_eq_true rfl) ?_
  intro p e s m below meth c A hx hb hr hml hts hown hlocks hA hD hP hK hN hS ls hl
  have hw : ∀ w ∈ BW, w.before _ s = true := fun w h => hts w (List.mem_cons_of_mem _ h)
  have C0 : xCtx E p m c cX12_reads 2 s _ RX12 A yX12_reads cX12_reads 2 (some .int) := ⟨hx, hb, hml, hown, hts, hA, hK, hN⟩
  have hl : lv_has ls 2 [(0, .ref (E.2.1 0))] := hl
  have B10 : ∀ (n : Nat) (g : xG) (a : xA) (x1 : Int32) (H : Heap) (locs : List Loc) (ls : Array Slot), va_P E.1 vwCl (wM E g a) H → va_S A s.heap H locs → lv_has ls 2 [(0, .ref (E.2.1 0)), (1, .int x1)] → f_X12_reads_10 n g a x1 = some res → W p l e ({ frames := 3, cells := 0, slots := 0, locals := 68 }) s m ([.ref (E.2.1 0)] : List Value).toArray below meth c H locs 0 0 (MQ below ((xQi E res.1 (wM E res.2.1 res.2.2)) A) ([.ref (E.2.1 0)] : List Value).toArray s 0 0 A) (F0 m 10 ls []) := by
    intro n
    induction n with
    | zero => intro g a x1 H locs ls hP hS hl hf; exact absurd (show (none : Option (Int32 × xG × xA)) = some res from hf) (by intro h; cases h)
    | succ n ih =>
      intro g a x1 H locs ls hP hS hl hf
      replace hf := (e_X12_reads_10 n g a x1).symm.trans hf
      refine lv_iload_n hx hb dX12_reads_10 rfl (lv_at hl 1 rfl) ?_
      refine lv_bipush (v := 100) hx hb dX12_reads_11 (by decide) ?_
      refine lv_icmp_ge (tgt := 72) hx hb dX12_reads_13 (by decide) (fun c3 => ?_) (fun c3 => ?_)
      · replace hf := (if_pos c3).symm.trans hf
        refine lv_iload_n hx hb dX12_reads_72 rfl (lv_at hl 1 rfl) ?_
        refine lv_bipush (v := 100) hx hb dX12_reads_73 (by decide) ?_
        refine lv_isub hx hb dX12_reads_75 ?_
        exact xi_retS (fr := (fun r => r.1)) (fw := (fun r => wM E r.2.1 r.2.2)) hx hb hr hlocks (Option.some.inj hf) hP hS dX12_reads_76
      · replace hf := (if_neg c3).symm.trans hf
        refine lv_aload_n hx hb dX12_reads_16 rfl (lv_at hl 0 rfl) ?_
        refine lv_iload_n hx hb dX12_reads_17 rfl (lv_at hl 1 rfl) ?_
        obtain ⟨u4, e5, hf⟩ := bd_some hf
        refine xci (xRunV (rest := []) (As := [.int x1]) (C := RX12) (k := 1) C0 (c_X12_readsAtom l E g a x1 e5) bw934 bw939 bw778 bw940 bw941 hd_X12_readsAtom ⟨Nat.le_of_ble_eq_true rfl, Nat.le_of_ble_eq_true rfl⟩ hP (wM_D hD) hS (va_recv hK hP (ci := 12) rfl (gm_0 E g a)) rfl hl.1 rfl (Nat.le_of_ble_eq_true rfl) dX12_reads_18 ⟨Nat.zero_le _, Nat.zero_le _⟩) hS (fun H locs hP hS => ?_)
        refine lv_istore_n (lv' := [(1, .int u4.1), (0, .ref (E.2.1 0))]) hx hb dX12_reads_21 rfl hl (by decide) rfl (fun ls hl => ?_)
        refine lv_iload_n hx hb dX12_reads_22 rfl (lv_at hl 0 rfl) ?_
        refine lv_bipush (v := 100) hx hb dX12_reads_23 (by decide) ?_
        refine lv_icmp_ge (tgt := 10) hx hb dX12_reads_25 (by decide) (fun c6 => ?_) (fun c6 => ?_)
        · replace hf := (if_pos c6).symm.trans hf
          exact ih g u4.2 u4.1 _ _ _ hP hS (lv_sub hl [1, 0] rfl) hf
        · replace hf := (if_neg c6).symm.trans hf
          refine lv_aload_n hx hb dX12_reads_28 rfl (lv_at hl 1 rfl) ?_
          refine lv_dup hx hb dX12_reads_29 rfl ?_
          refine va_get (C := RX12) (T := TX12) (N := 22) hx hb hw bfX120 hown hK hP 0 (gm_0 E g u4.2) rfl 11 (by decide) (hw _ bw935) (fun _ h9 => h9) rfl dX12_reads_30 ?_
          refine lv_iconst (v := 1) hx hb dX12_reads_33 (by decide) ?_
          refine lv_iadd hx hb dX12_reads_34 ?_
          refine va_put (v := .int ((g 5) + 1)) (ty := .int) (C := RX12) (T := TX12) (N := 22) hx hb hw bfX120 tyX12 tyX12_ok nmX12 hown hK hP (wM_D hD) hS 0 (gm_0 E g u4.2) rfl 11 (by decide) (hw _ bw935) (fun _ h9 => h9) rfl (by decide +kernel) rfl rfl (Nat.le_of_ble_eq_true rfl) dX12_reads_35 (fun H locs hP _ hS => ?_)
          have hP := xP_eq (sm_g5 E g u4.2 ((g 5) + 1)) hP
          refine lv_iload_n hx hb dX12_reads_38 rfl (lv_at hl 0 rfl) ?_
          refine lv_aload_n hx hb dX12_reads_39 rfl (lv_at hl 1 rfl) ?_
          refine va_get (C := RX12) (T := TX12) (N := 22) hx hb hw bfX120 hown hK hP 0 (gm_0 E (upd g 5 ((g 5) + 1)) u4.2) rfl 7 (by decide) (hw _ bw920) (fun _ h9 => h9) rfl dX12_reads_40 ?_
          refine lv_icmp_ne (tgt := 48) hx hb dX12_reads_43 (by decide) (fun c7 => ?_) (fun c7 => ?_)
          · replace hf := (if_neg c7).symm.trans hf
            refine lv_aload_n hx hb dX12_reads_48 rfl (lv_at hl 1 rfl) ?_
            refine lv_iload_n hx hb dX12_reads_49 rfl (lv_at hl 0 rfl) ?_
            obtain ⟨u8, e9, hf⟩ := bd_some hf
            refine xci (xRunV (rest := []) (As := [.int u4.1]) (C := RX12) (k := 1) C0 (c_X12_signAt l E (upd g 5 ((g 5) + 1)) u4.2 u4.1 e9) bw924 bw926 bw778 bw927 bw928 hd_X12_signAt ⟨Nat.le_of_ble_eq_true rfl, Nat.le_of_ble_eq_true rfl⟩ hP (wM_D hD) hS (va_recv hK hP (ci := 12) rfl (gm_0 E (upd g 5 ((g 5) + 1)) u4.2)) rfl hl.1 rfl (Nat.le_of_ble_eq_true rfl) dX12_reads_50 ⟨Nat.zero_le _, Nat.zero_le _⟩) hS (fun H locs hP hS => ?_)
            refine lv_bipush (v := 38) hx hb dX12_reads_53 (by decide) ?_
            refine lv_icmp_ne (tgt := 64) hx hb dX12_reads_55 (by decide) (fun c10 => ?_) (fun c10 => ?_)
            · replace hf := (if_neg c10).symm.trans hf
              refine lv_bipush (v := 100) hx hb dX12_reads_64 (by decide) ?_
              refine lv_iload_n hx hb dX12_reads_66 rfl (lv_at hl 0 rfl) ?_
              refine lv_iadd hx hb dX12_reads_67 ?_
              refine lv_istore_n (lv' := [(1, .int (100 + u4.1)), (0, .ref (E.2.1 0))]) hx hb dX12_reads_68 rfl hl (by decide) rfl (fun ls hl => ?_)
              refine lv_goto (tgt := 10) hx hb dX12_reads_69 (by decide) ?_
              exact ih (upd g 5 ((g 5) + 1)) u4.2 (100 + u4.1) _ _ _ hP hS (lv_sub hl [1, 0] rfl) hf
            · replace hf := (if_pos c10).symm.trans hf
              refine lv_iload_n hx hb dX12_reads_58 rfl (lv_at hl 0 rfl) ?_
              refine lv_iconst (v := 1) hx hb dX12_reads_59 (by decide) ?_
              refine lv_iadd hx hb dX12_reads_60 ?_
              refine lv_goto (tgt := 68) hx hb dX12_reads_61 (by decide) ?_
              refine lv_istore_n (lv' := [(1, .int (u4.1 + 1)), (0, .ref (E.2.1 0))]) hx hb dX12_reads_68 rfl hl (by decide) rfl (fun ls hl => ?_)
              refine lv_goto (tgt := 10) hx hb dX12_reads_69 (by decide) ?_
              exact ih (upd g 5 ((g 5) + 1)) u4.2 (u4.1 + 1) _ _ _ hP hS (lv_sub hl [1, 0] rfl) hf
          · replace hf := (if_pos c7).symm.trans hf
            refine lv_iconst (v := (-1)) hx hb dX12_reads_46 (by decide) ?_
            exact xi_retS (fr := (fun r => r.1)) (fw := (fun r => wM E r.2.1 r.2.2)) hx hb hr hlocks (Option.some.inj hf) hP hS dX12_reads_47
  refine lv_aload_n hx hb dX12_reads_0 rfl (lv_at hl 0 rfl) ?_
  refine lv_iconst (v := 0) hx hb dX12_reads_1 (by decide) ?_
  refine va_put (v := .int 0) (ty := .int) (C := RX12) (T := TX12) (N := 22) hx hb hw bfX120 tyX12 tyX12_ok nmX12 hown hK hP (wM_D hD) hS 0 (gm_0 E g a) rfl 11 (by decide) (hw _ bw935) (fun _ h9 => h9) rfl (by decide +kernel) rfl rfl (Nat.le_of_ble_eq_true rfl) dX12_reads_2 (fun H locs hP _ hS => ?_)
  have hP := xP_eq (sm_g5 E g a 0) hP
  refine lv_aload_n hx hb dX12_reads_5 rfl (lv_at hl 0 rfl) ?_
  obtain ⟨u1, e2, hf⟩ := bd_some hf
  refine xci (xRunV (rest := []) (As := []) (C := RX12) (k := 0) C0 (c_X12_readsHead l E (upd g 5 0) a e2) bw929 bw936 bw778 bw937 bw938 hd_X12_readsHead ⟨Nat.le_of_ble_eq_true rfl, Nat.le_of_ble_eq_true rfl⟩ hP (wM_D hD) hS (va_recv hK hP (ci := 12) rfl (gm_0 E (upd g 5 0) a)) rfl hl.1 rfl (Nat.le_of_ble_eq_true rfl) dX12_reads_6 ⟨Nat.zero_le _, Nat.zero_le _⟩) hS (fun H locs hP hS => ?_)
  refine lv_istore_n (lv' := [(1, .int u1.1), (0, .ref (E.2.1 0))]) hx hb dX12_reads_9 rfl hl (by decide) rfl (fun ls hl => ?_)
  exact B10 fu u1.2.1 u1.2.2 u1.1 _ _ _ hP hS (lv_sub hl [1, 0] rfl) hf
def f_X12_fault (g : xG) (a : xA) : Option (Int32 × xG × xA) := Option.bind (f_X12_reads (upd g 8 0) a) (fun u1 => some (u1.1, u1.2.1, u1.2.2))
set_option maxRecDepth 100000 in
set_option maxHeartbeats 40000000 in
theorem c_X12_fault (l : Launch) (E : xE) (g : xG) (a : xA) {res : Int32 × xG × xA} (hf : f_X12_fault g a = some res) : xM l E yX12_fault cX12_fault 1 (some .int) 4 89 [.ref (E.2.1 0)] (wM E g a) (xQi E res.1 (wM E res.2.1 res.2.2)) := by
  unfold f_X12_fault at hf
  refine xM_of (by decide) (Nat.le_of_ble_eq_true rfl) ?_
  intro p e s m below meth c A hx hb hr hml hts hown hlocks hA hD hP hK hN hS ls hl
  have hw : ∀ w ∈ BW, w.before _ s = true := fun w h => hts w (List.mem_cons_of_mem _ h)
  have C0 : xCtx E p m c cX12_fault 1 s _ RX12 A yX12_fault cX12_fault 1 (some .int) := ⟨hx, hb, hml, hown, hts, hA, hK, hN⟩
  have hl : lv_has ls 1 [(0, .ref (E.2.1 0))] := hl
  refine lv_aload_n hx hb dX12_fault_0 rfl (lv_at hl 0 rfl) ?_
  refine lv_iconst (v := 0) hx hb dX12_fault_1 (by decide) ?_
  refine va_put (v := .int 0) (ty := .int) (C := RX12) (T := TX12) (N := 22) hx hb hw bfX120 tyX12 tyX12_ok nmX12 hown hK hP (wM_D hD) hS 0 (gm_0 E g a) rfl 21 (by decide) (hw _ bw771) (fun _ h9 => h9) rfl (by decide +kernel) rfl rfl (Nat.le_of_ble_eq_true rfl) dX12_fault_2 (fun H locs hP _ hS => ?_)
  have hP := xP_eq (sm_g8 E g a 0) hP
  refine lv_aload_n hx hb dX12_fault_5 rfl (lv_at hl 0 rfl) ?_
  obtain ⟨u1, e2, hf⟩ := bd_some hf
  refine xci (xRunV (rest := []) (As := []) (C := RX12) (k := 0) C0 (c_X12_reads l E (upd g 8 0) a e2) bw942 bw943 bw778 bw944 bw945 hd_X12_reads ⟨Nat.le_of_ble_eq_true rfl, Nat.le_of_ble_eq_true rfl⟩ hP (wM_D hD) hS (va_recv hK hP (ci := 12) rfl (gm_0 E (upd g 8 0) a)) rfl hl.1 rfl (Nat.le_of_ble_eq_true rfl) dX12_fault_6 ⟨Nat.zero_le _, Nat.zero_le _⟩) hS (fun H locs hP hS => ?_)
  exact xi_retS (fr := (fun r => r.1)) (fw := (fun r => wM E r.2.1 r.2.2)) hx hb hr hlocks (Option.some.inj hf) hP hS dX12_fault_9
def f_X12_hold_88 (g : xG) (a : xA) (K4 : Int32 → Int32 → Int32 → Option (Int32)) : Nat → Int32 → Int32 → Int32 → Int32 → Option (Int32)
  | 0, _, _, _, _ => none
  | n + 1, x1, x3, x5, x6 => (if x6 < 0 then ck (inB x3 20) (ck (inB (a 7 (x3 : Int32).toNatClampNeg) 8) (K4 x1 (t_X12_isIn g a (a 2 ((a 7 (x3 : Int32).toNatClampNeg) : Int32).toNatClampNeg) x5) (x3 + 1))) else ck (inB ((3 * x3) + x6) 60) (Option.bind (f_X12_on g a x1 (a 8 (((3 * x3) + x6) : Int32).toNatClampNeg)) (fun u20 => f_X12_hold_88 g a K4 n x1 x3 ((x5 * (g 0)) + u20) (x6 + (-1)))))
theorem e_X12_hold_88 (g : xG) (a : xA) (K4 : Int32 → Int32 → Int32 → Option (Int32)) (n : Nat) (x1 : Int32) (x3 : Int32) (x5 : Int32) (x6 : Int32) : f_X12_hold_88 g a K4 (n + 1) x1 x3 x5 x6 = (if x6 < 0 then ck (inB x3 20) (ck (inB (a 7 (x3 : Int32).toNatClampNeg) 8) (K4 x1 (t_X12_isIn g a (a 2 ((a 7 (x3 : Int32).toNatClampNeg) : Int32).toNatClampNeg) x5) (x3 + 1))) else ck (inB ((3 * x3) + x6) 60) (Option.bind (f_X12_on g a x1 (a 8 (((3 * x3) + x6) : Int32).toNatClampNeg)) (fun u20 => f_X12_hold_88 g a K4 n x1 x3 ((x5 * (g 0)) + u20) (x6 + (-1))))) := rfl
def f_X12_hold_4 (g : xG) (a : xA) : Nat → Int32 → Int32 → Int32 → Option (Int32)
  | 0, _, _, _ => none
  | n + 1, x1, x2, x3 => (if (g 5) ≤ x3 then ck (boB x2) (some x2) else (if x2 = 0 then ck (boB x2) (some x2) else ck (inB (3 * x3) 60) (Option.bind (f_X12_on g a x1 (a 8 ((3 * x3) : Int32).toNatClampNeg)) (fun u6 => ck (inB x3 20) ((if (a 7 (x3 : Int32).toNatClampNeg) = (-1) then ck (inB ((3 * x3) + 1) 60) (Option.bind (f_X12_on g a x1 (a 8 (((3 * x3) + 1) : Int32).toNatClampNeg)) (fun u13 => (if u6 = u13 then f_X12_hold_4 g a n x1 1 (x3 + 1) else f_X12_hold_4 g a n x1 0 (x3 + 1)))) else ck (inB x3 20) (ck (inB (a 7 (x3 : Int32).toNatClampNeg) 8) (f_X12_hold_88 g a (f_X12_hold_4 g a n) fu x1 x3 0 ((a 1 ((a 7 (x3 : Int32).toNatClampNeg) : Int32).toNatClampNeg) - 1)))))))))
theorem e_X12_hold_4 (g : xG) (a : xA) (n : Nat) (x1 : Int32) (x2 : Int32) (x3 : Int32) : f_X12_hold_4 g a (n + 1) x1 x2 x3 = (if (g 5) ≤ x3 then ck (boB x2) (some x2) else (if x2 = 0 then ck (boB x2) (some x2) else ck (inB (3 * x3) 60) (Option.bind (f_X12_on g a x1 (a 8 ((3 * x3) : Int32).toNatClampNeg)) (fun u6 => ck (inB x3 20) ((if (a 7 (x3 : Int32).toNatClampNeg) = (-1) then ck (inB ((3 * x3) + 1) 60) (Option.bind (f_X12_on g a x1 (a 8 (((3 * x3) + 1) : Int32).toNatClampNeg)) (fun u13 => (if u6 = u13 then f_X12_hold_4 g a n x1 1 (x3 + 1) else f_X12_hold_4 g a n x1 0 (x3 + 1)))) else ck (inB x3 20) (ck (inB (a 7 (x3 : Int32).toNatClampNeg) 8) (f_X12_hold_88 g a (f_X12_hold_4 g a n) fu x1 x3 0 ((a 1 ((a 7 (x3 : Int32).toNatClampNeg) : Int32).toNatClampNeg) - 1))))))))) := rfl
def f_X12_hold (g : xG) (a : xA) (v1 : Int32) : Option (Int32) := f_X12_hold_4 g a fu v1 1 0
set_option maxRecDepth 100000 in
set_option maxHeartbeats 40000000 in
theorem c_X12_hold (l : Launch) (E : xE) (g : xG) (a : xA) (v1 : Int32) {res : Int32} (hf : f_X12_hold g a v1 = some res) : xM l E yX12_hold cX12_hold 7 (some .boolean) 2 45 [.ref (E.2.1 0), .int v1] (wM E g a) (xQi E res (wM E g a)) := by
  unfold f_X12_hold at hf
  refine xM_of (by decide) (Nat.le_of_ble_eq_true rfl) ?_
  intro p e s m below meth c A hx hb hr hml hts hown hlocks hA hD hP hK hN hS ls hl
  have hw : ∀ w ∈ BW, w.before _ s = true := fun w h => hts w (List.mem_cons_of_mem _ h)
  have C0 : xCtx E p m c cX12_hold 7 s _ RX12 A yX12_hold cX12_hold 7 (some .boolean) := ⟨hx, hb, hml, hown, hts, hA, hK, hN⟩
  have hl : lv_has ls 7 [(0, .ref (E.2.1 0)), (1, .int v1)] := hl
  have B88 : ∀ (K4 : Int32 → Int32 → Int32 → Option (Int32)) (hK4 : ∀ (x1 : Int32) (x2 : Int32) (x3 : Int32) (H : Heap) (locs : List Loc) (ls : Array Slot), va_P E.1 vwCl (wM E g a) H → va_S A s.heap H locs → lv_has ls 7 [(0, .ref (E.2.1 0)), (1, .int x1), (2, .int x2), (3, .int x3)] → K4 x1 x2 x3 = some res → W p l e ({ frames := 2, cells := 0, slots := 0, locals := 45 }) s m ([.ref (E.2.1 0), .int v1] : List Value).toArray below meth c H locs 0 0 (MQ below ((xQi E res (wM E g a)) A) ([.ref (E.2.1 0), .int v1] : List Value).toArray s 0 0 A) (F0 m 4 ls [])) (n : Nat) (x1 : Int32) (x3 : Int32) (x5 : Int32) (x6 : Int32) (H : Heap) (locs : List Loc) (ls : Array Slot), va_P E.1 vwCl (wM E g a) H → va_S A s.heap H locs → lv_has ls 7 [(0, .ref (E.2.1 0)), (1, .int x1), (3, .int x3), (5, .int x5), (6, .int x6)] → f_X12_hold_88 g a K4 n x1 x3 x5 x6 = some res → W p l e ({ frames := 2, cells := 0, slots := 0, locals := 45 }) s m ([.ref (E.2.1 0), .int v1] : List Value).toArray below meth c H locs 0 0 (MQ below ((xQi E res (wM E g a)) A) ([.ref (E.2.1 0), .int v1] : List Value).toArray s 0 0 A) (F0 m 88 ls []) := by
    intro K4 hK4 n
    induction n with
    | zero => intro x1 x3 x5 x6 H locs ls hP hS hl hf; exact absurd (show (none : Option (Int32)) = some res from hf) (by intro h; cases h)
    | succ n ih =>
      intro x1 x3 x5 x6 H locs ls hP hS hl hf
      replace hf := (e_X12_hold_88 g a K4 n x1 x3 x5 x6).symm.trans hf
      refine lv_iload hx hb dX12_hold_88 (lv_at hl 4 rfl) ?_
      refine lv_if_lt (tgt := 125) hx hb dX12_hold_90 (by decide) (fun c16 => ?_) (fun c16 => ?_)
      · replace hf := (if_pos c16).symm.trans hf
        refine lv_aload_n hx hb dX12_hold_125 rfl (lv_at hl 0 rfl) ?_
        refine va_get (C := RX12) (T := TX12) (N := 22) hx hb hw bfX120 hown hK hP 0 (gm_0 E g a) rfl 3 (by decide) (hw _ bw757) (fun _ h9 => h9) rfl dX12_hold_126 ?_
        refine lv_aload_n hx hb dX12_hold_129 rfl (lv_at hl 0 rfl) ?_
        refine va_get (C := RX12) (T := TX12) (N := 22) hx hb hw bfX120 hown hK hP 0 (gm_0 E g a) rfl 12 (by decide) (hw _ bw762) (fun _ h9 => h9) rfl dX12_hold_130 ?_
        refine lv_iload_n hx hb dX12_hold_133 rfl (lv_at hl 2 rfl) ?_
        obtain ⟨k17, hf⟩ := ck_some hf
        refine va_iald hx hb hK hP 7 0 (gm_7 E g a) rfl (inB_in k17) dX12_hold_134 ?_
        obtain ⟨k18, hf⟩ := ck_some hf
        refine va_iald hx hb hK hP 2 0 (gm_2 E g a) rfl (inB_in k18) dX12_hold_135 ?_
        refine lv_iload hx hb dX12_hold_136 (lv_at hl 3 rfl) ?_
        refine xci (xRunS (rest := []) (As := [.int (a 2 ((a 7 (x3 : Int32).toNatClampNeg) : Int32).toNatClampNeg), .int x5]) (k := 2) C0 (c_X12_isIn l E g a (a 2 ((a 7 (x3 : Int32).toNatClampNeg) : Int32).toNatClampNeg) x5) bw779 bw793 bw778 bw794 hd_X12_isIn ⟨Nat.le_of_ble_eq_true rfl, Nat.le_of_ble_eq_true rfl⟩ hP (wM_D hD) hS rfl hl.1 rfl (Nat.le_of_ble_eq_true rfl) dX12_hold_138 ⟨Nat.zero_le _, Nat.zero_le _⟩) hS (fun H locs hP hS => ?_)
        refine lv_istore_n (lv' := [(2, .int (t_X12_isIn g a (a 2 ((a 7 (x3 : Int32).toNatClampNeg) : Int32).toNatClampNeg) x5)), (0, .ref (E.2.1 0)), (1, .int x1), (3, .int x3), (5, .int x5), (6, .int x6)]) hx hb dX12_hold_141 rfl hl (by decide) rfl (fun ls hl => ?_)
        refine lv_iinc (v := (x3 + 1)) (lv' := [(3, .int (x3 + 1)), (2, .int (t_X12_isIn g a (a 2 ((a 7 (x3 : Int32).toNatClampNeg) : Int32).toNatClampNeg) x5)), (0, .ref (E.2.1 0)), (1, .int x1), (5, .int x5), (6, .int x6)]) hx hb dX12_hold_142 hl (k := 3) rfl rfl (by decide) rfl (fun ls hl => ?_)
        refine lv_goto (tgt := 4) hx hb dX12_hold_145 (by decide) ?_
        exact hK4 x1 (t_X12_isIn g a (a 2 ((a 7 (x3 : Int32).toNatClampNeg) : Int32).toNatClampNeg) x5) (x3 + 1) _ _ _ hP hS (lv_sub hl [2, 3, 1, 0] rfl) hf
      · replace hf := (if_neg c16).symm.trans hf
        refine lv_iload hx hb dX12_hold_93 (lv_at hl 3 rfl) ?_
        refine lv_aload_n hx hb dX12_hold_95 rfl (lv_at hl 0 rfl) ?_
        refine va_get (C := RX12) (T := TX12) (N := 22) hx hb hw bfX120 hown hK hP 0 (gm_0 E g a) rfl 0 (by decide) (hw _ bw755) (fun _ h9 => h9) rfl dX12_hold_96 ?_
        refine lv_imul hx hb dX12_hold_99 ?_
        refine lv_aload_n hx hb dX12_hold_100 rfl (lv_at hl 0 rfl) ?_
        refine lv_iload_n hx hb dX12_hold_101 rfl (lv_at hl 1 rfl) ?_
        refine lv_aload_n hx hb dX12_hold_102 rfl (lv_at hl 0 rfl) ?_
        refine va_get (C := RX12) (T := TX12) (N := 22) hx hb hw bfX120 hown hK hP 0 (gm_0 E g a) rfl 13 (by decide) (hw _ bw763) (fun _ h9 => h9) rfl dX12_hold_103 ?_
        refine lv_iconst (v := 3) hx hb dX12_hold_106 (by decide) ?_
        refine lv_iload_n hx hb dX12_hold_107 rfl (lv_at hl 2 rfl) ?_
        refine lv_imul hx hb dX12_hold_108 ?_
        refine lv_iload hx hb dX12_hold_109 (lv_at hl 4 rfl) ?_
        refine lv_iadd hx hb dX12_hold_111 ?_
        obtain ⟨k19, hf⟩ := ck_some hf
        refine va_iald hx hb hK hP 8 0 (gm_8 E g a) rfl (inB_in k19) dX12_hold_112 ?_
        obtain ⟨u20, e21, hf⟩ := bd_some hf
        refine xci (xRunV (rest := [.int (x5 * (g 0))]) (As := [.int x1, .int (a 8 (((3 * x3) + x6) : Int32).toNatClampNeg)]) (C := RX12) (k := 2) C0 (c_X12_on l E g a x1 (a 8 (((3 * x3) + x6) : Int32).toNatClampNeg) e21) bw774 bw823 bw778 bw824 bw825 hd_X12_on ⟨Nat.le_of_ble_eq_true rfl, Nat.le_of_ble_eq_true rfl⟩ hP (wM_D hD) hS (va_recv hK hP (ci := 12) rfl (gm_0 E g a)) rfl hl.1 rfl (Nat.le_of_ble_eq_true rfl) dX12_hold_113 ⟨Nat.zero_le _, Nat.zero_le _⟩) hS (fun H locs hP hS => ?_)
        refine lv_iadd hx hb dX12_hold_116 ?_
        refine lv_istore (lv' := [(5, .int ((x5 * (g 0)) + u20)), (0, .ref (E.2.1 0)), (1, .int x1), (3, .int x3), (6, .int x6)]) hx hb dX12_hold_117 hl (by decide) rfl (fun ls hl => ?_)
        refine lv_iinc (v := (x6 + (-1))) (lv' := [(6, .int (x6 + (-1))), (5, .int ((x5 * (g 0)) + u20)), (0, .ref (E.2.1 0)), (1, .int x1), (3, .int x3)]) hx hb dX12_hold_119 hl (k := 4) rfl rfl (by decide) rfl (fun ls hl => ?_)
        refine lv_goto (tgt := 88) hx hb dX12_hold_122 (by decide) ?_
        exact ih x1 x3 ((x5 * (g 0)) + u20) (x6 + (-1)) _ _ _ hP hS (lv_sub hl [2, 3, 4, 1, 0] rfl) hf
  have B4 : ∀ (n : Nat) (x1 : Int32) (x2 : Int32) (x3 : Int32) (H : Heap) (locs : List Loc) (ls : Array Slot), va_P E.1 vwCl (wM E g a) H → va_S A s.heap H locs → lv_has ls 7 [(0, .ref (E.2.1 0)), (1, .int x1), (2, .int x2), (3, .int x3)] → f_X12_hold_4 g a n x1 x2 x3 = some res → W p l e ({ frames := 2, cells := 0, slots := 0, locals := 45 }) s m ([.ref (E.2.1 0), .int v1] : List Value).toArray below meth c H locs 0 0 (MQ below ((xQi E res (wM E g a)) A) ([.ref (E.2.1 0), .int v1] : List Value).toArray s 0 0 A) (F0 m 4 ls []) := by
    intro n
    induction n with
    | zero => intro x1 x2 x3 H locs ls hP hS hl hf; exact absurd (show (none : Option (Int32)) = some res from hf) (by intro h; cases h)
    | succ n ih =>
      intro x1 x2 x3 H locs ls hP hS hl hf
      replace hf := (e_X12_hold_4 g a n x1 x2 x3).symm.trans hf
      refine lv_iload_n hx hb dX12_hold_4 rfl (lv_at hl 3 rfl) ?_
      refine lv_aload_n hx hb dX12_hold_5 rfl (lv_at hl 0 rfl) ?_
      refine va_get (C := RX12) (T := TX12) (N := 22) hx hb hw bfX120 hown hK hP 0 (gm_0 E g a) rfl 11 (by decide) (hw _ bw935) (fun _ h9 => h9) rfl dX12_hold_6 ?_
      refine lv_icmp_ge (tgt := 148) hx hb dX12_hold_9 (by decide) (fun c1 => ?_) (fun c1 => ?_)
      · replace hf := (if_pos c1).symm.trans hf
        refine lv_iload_n hx hb dX12_hold_148 rfl (lv_at hl 2 rfl) ?_
        obtain ⟨k2, hf⟩ := ck_some hf
        exact xz_retS (fr := (fun r => r)) (fw := (fun r => wM E g a)) hx hb hr hlocks (Option.some.inj hf) (boB_bo k2) hP hS dX12_hold_149
      · replace hf := (if_neg c1).symm.trans hf
        refine lv_iload_n hx hb dX12_hold_12 rfl (lv_at hl 2 rfl) ?_
        refine lv_if_eq (tgt := 148) hx hb dX12_hold_13 (by decide) (fun c3 => ?_) (fun c3 => ?_)
        · replace hf := (if_pos c3).symm.trans hf
          refine lv_iload_n hx hb dX12_hold_148 rfl (lv_at hl 2 rfl) ?_
          obtain ⟨k4, hf⟩ := ck_some hf
          exact xz_retS (fr := (fun r => r)) (fw := (fun r => wM E g a)) hx hb hr hlocks (Option.some.inj hf) (boB_bo k4) hP hS dX12_hold_149
        · replace hf := (if_neg c3).symm.trans hf
          refine lv_aload_n hx hb dX12_hold_16 rfl (lv_at hl 0 rfl) ?_
          refine lv_iload_n hx hb dX12_hold_17 rfl (lv_at hl 1 rfl) ?_
          refine lv_aload_n hx hb dX12_hold_18 rfl (lv_at hl 0 rfl) ?_
          refine va_get (C := RX12) (T := TX12) (N := 22) hx hb hw bfX120 hown hK hP 0 (gm_0 E g a) rfl 13 (by decide) (hw _ bw763) (fun _ h9 => h9) rfl dX12_hold_19 ?_
          refine lv_iconst (v := 3) hx hb dX12_hold_22 (by decide) ?_
          refine lv_iload_n hx hb dX12_hold_23 rfl (lv_at hl 3 rfl) ?_
          refine lv_imul hx hb dX12_hold_24 ?_
          obtain ⟨k5, hf⟩ := ck_some hf
          refine va_iald hx hb hK hP 8 0 (gm_8 E g a) rfl (inB_in k5) dX12_hold_25 ?_
          obtain ⟨u6, e7, hf⟩ := bd_some hf
          refine xci (xRunV (rest := []) (As := [.int x1, .int (a 8 ((3 * x3) : Int32).toNatClampNeg)]) (C := RX12) (k := 2) C0 (c_X12_on l E g a x1 (a 8 ((3 * x3) : Int32).toNatClampNeg) e7) bw774 bw823 bw778 bw824 bw825 hd_X12_on ⟨Nat.le_of_ble_eq_true rfl, Nat.le_of_ble_eq_true rfl⟩ hP (wM_D hD) hS (va_recv hK hP (ci := 12) rfl (gm_0 E g a)) rfl hl.1 rfl (Nat.le_of_ble_eq_true rfl) dX12_hold_26 ⟨Nat.zero_le _, Nat.zero_le _⟩) hS (fun H locs hP hS => ?_)
          refine lv_istore (lv' := [(4, .int u6), (0, .ref (E.2.1 0)), (1, .int x1), (2, .int x2), (3, .int x3)]) hx hb dX12_hold_29 hl (by decide) rfl (fun ls hl => ?_)
          refine lv_aload_n hx hb dX12_hold_31 rfl (lv_at hl 1 rfl) ?_
          refine va_get (C := RX12) (T := TX12) (N := 22) hx hb hw bfX120 hown hK hP 0 (gm_0 E g a) rfl 12 (by decide) (hw _ bw762) (fun _ h9 => h9) rfl dX12_hold_32 ?_
          refine lv_iload_n hx hb dX12_hold_35 rfl (lv_at hl 4 rfl) ?_
          obtain ⟨k8, hf⟩ := ck_some hf
          refine va_iald hx hb hK hP 7 0 (gm_7 E g a) rfl (inB_in k8) dX12_hold_36 ?_
          refine lv_iconst (v := (-1)) hx hb dX12_hold_37 (by decide) ?_
          refine lv_icmp_ne (tgt := 70) hx hb dX12_hold_38 (by decide) (fun c9 => ?_) (fun c9 => ?_)
          · replace hf := (if_neg c9).symm.trans hf
            refine lv_iconst (v := 0) hx hb dX12_hold_70 (by decide) ?_
            refine lv_istore (lv' := [(5, .int 0), (4, .int u6), (0, .ref (E.2.1 0)), (1, .int x1), (2, .int x2), (3, .int x3)]) hx hb dX12_hold_71 hl (by decide) rfl (fun ls hl => ?_)
            refine lv_aload_n hx hb dX12_hold_73 rfl (lv_at hl 2 rfl) ?_
            refine va_get (C := RX12) (T := TX12) (N := 22) hx hb hw bfX120 hown hK hP 0 (gm_0 E g a) rfl 2 (by decide) (hw _ bw756) (fun _ h9 => h9) rfl dX12_hold_74 ?_
            refine lv_aload_n hx hb dX12_hold_77 rfl (lv_at hl 2 rfl) ?_
            refine va_get (C := RX12) (T := TX12) (N := 22) hx hb hw bfX120 hown hK hP 0 (gm_0 E g a) rfl 12 (by decide) (hw _ bw762) (fun _ h9 => h9) rfl dX12_hold_78 ?_
            refine lv_iload_n hx hb dX12_hold_81 rfl (lv_at hl 5 rfl) ?_
            obtain ⟨k10, hf⟩ := ck_some hf
            refine va_iald hx hb hK hP 7 0 (gm_7 E g a) rfl (inB_in k10) dX12_hold_82 ?_
            obtain ⟨k11, hf⟩ := ck_some hf
            refine va_iald hx hb hK hP 1 0 (gm_1 E g a) rfl (inB_in k11) dX12_hold_83 ?_
            refine lv_iconst (v := 1) hx hb dX12_hold_84 (by decide) ?_
            refine lv_isub hx hb dX12_hold_85 ?_
            refine lv_istore (lv' := [(6, .int ((a 1 ((a 7 (x3 : Int32).toNatClampNeg) : Int32).toNatClampNeg) - 1)), (5, .int 0), (4, .int u6), (0, .ref (E.2.1 0)), (1, .int x1), (2, .int x2), (3, .int x3)]) hx hb dX12_hold_86 hl (by decide) rfl (fun ls hl => ?_)
            exact B88 (f_X12_hold_4 g a n) ih fu x1 x3 0 ((a 1 ((a 7 (x3 : Int32).toNatClampNeg) : Int32).toNatClampNeg) - 1) _ _ _ hP hS (lv_sub hl [3, 4, 6, 1, 0] rfl) hf
          · replace hf := (if_pos c9).symm.trans hf
            refine lv_iload hx hb dX12_hold_41 (lv_at hl 0 rfl) ?_
            refine lv_aload_n hx hb dX12_hold_43 rfl (lv_at hl 1 rfl) ?_
            refine lv_iload_n hx hb dX12_hold_44 rfl (lv_at hl 2 rfl) ?_
            refine lv_aload_n hx hb dX12_hold_45 rfl (lv_at hl 1 rfl) ?_
            refine va_get (C := RX12) (T := TX12) (N := 22) hx hb hw bfX120 hown hK hP 0 (gm_0 E g a) rfl 13 (by decide) (hw _ bw763) (fun _ h9 => h9) rfl dX12_hold_46 ?_
            refine lv_iconst (v := 3) hx hb dX12_hold_49 (by decide) ?_
            refine lv_iload_n hx hb dX12_hold_50 rfl (lv_at hl 4 rfl) ?_
            refine lv_imul hx hb dX12_hold_51 ?_
            refine lv_iconst (v := 1) hx hb dX12_hold_52 (by decide) ?_
            refine lv_iadd hx hb dX12_hold_53 ?_
            obtain ⟨k12, hf⟩ := ck_some hf
            refine va_iald hx hb hK hP 8 0 (gm_8 E g a) rfl (inB_in k12) dX12_hold_54 ?_
            obtain ⟨u13, e14, hf⟩ := bd_some hf
            refine xci (xRunV (rest := [.int u6]) (As := [.int x1, .int (a 8 (((3 * x3) + 1) : Int32).toNatClampNeg)]) (C := RX12) (k := 2) C0 (c_X12_on l E g a x1 (a 8 (((3 * x3) + 1) : Int32).toNatClampNeg) e14) bw774 bw823 bw778 bw824 bw825 hd_X12_on ⟨Nat.le_of_ble_eq_true rfl, Nat.le_of_ble_eq_true rfl⟩ hP (wM_D hD) hS (va_recv hK hP (ci := 12) rfl (gm_0 E g a)) rfl hl.1 rfl (Nat.le_of_ble_eq_true rfl) dX12_hold_55 ⟨Nat.zero_le _, Nat.zero_le _⟩) hS (fun H locs hP hS => ?_)
            refine lv_icmp_ne (tgt := 65) hx hb dX12_hold_58 (by decide) (fun c15 => ?_) (fun c15 => ?_)
            · replace hf := (if_neg c15).symm.trans hf
              refine lv_iconst (v := 0) hx hb dX12_hold_65 (by decide) ?_
              refine lv_istore_n (lv' := [(2, .int 0), (4, .int u6), (0, .ref (E.2.1 0)), (1, .int x1), (3, .int x3)]) hx hb dX12_hold_66 rfl hl (by decide) rfl (fun ls hl => ?_)
              refine lv_goto (tgt := 142) hx hb dX12_hold_67 (by decide) ?_
              refine lv_iinc (v := (x3 + 1)) (lv' := [(3, .int (x3 + 1)), (2, .int 0), (4, .int u6), (0, .ref (E.2.1 0)), (1, .int x1)]) hx hb dX12_hold_142 hl (k := 4) rfl rfl (by decide) rfl (fun ls hl => ?_)
              refine lv_goto (tgt := 4) hx hb dX12_hold_145 (by decide) ?_
              exact ih x1 0 (x3 + 1) _ _ _ hP hS (lv_sub hl [3, 4, 1, 0] rfl) hf
            · replace hf := (if_pos c15).symm.trans hf
              refine lv_iconst (v := 1) hx hb dX12_hold_61 (by decide) ?_
              refine lv_goto (tgt := 66) hx hb dX12_hold_62 (by decide) ?_
              refine lv_istore_n (lv' := [(2, .int 1), (4, .int u6), (0, .ref (E.2.1 0)), (1, .int x1), (3, .int x3)]) hx hb dX12_hold_66 rfl hl (by decide) rfl (fun ls hl => ?_)
              refine lv_goto (tgt := 142) hx hb dX12_hold_67 (by decide) ?_
              refine lv_iinc (v := (x3 + 1)) (lv' := [(3, .int (x3 + 1)), (2, .int 1), (4, .int u6), (0, .ref (E.2.1 0)), (1, .int x1)]) hx hb dX12_hold_142 hl (k := 4) rfl rfl (by decide) rfl (fun ls hl => ?_)
              refine lv_goto (tgt := 4) hx hb dX12_hold_145 (by decide) ?_
              exact ih x1 1 (x3 + 1) _ _ _ hP hS (lv_sub hl [3, 4, 1, 0] rfl) hf
  refine lv_iconst (v := 1) hx hb dX12_hold_0 (by decide) ?_
  refine lv_istore_n (lv' := [(2, .int 1), (0, .ref (E.2.1 0)), (1, .int v1)]) hx hb dX12_hold_1 rfl hl (by decide) rfl (fun ls hl => ?_)
  refine lv_iconst (v := 0) hx hb dX12_hold_2 (by decide) ?_
  refine lv_istore_n (lv' := [(3, .int 0), (2, .int 1), (0, .ref (E.2.1 0)), (1, .int v1)]) hx hb dX12_hold_3 rfl hl (by decide) rfl (fun ls hl => ?_)
  exact B4 fu v1 1 0 _ _ _ hP hS (lv_sub hl [2, 3, 1, 0] rfl) hf
def f_X12_define_71 (K43 : xG → xA → Int32 → Int32 → Option (Int32 × xG × xA)) : Nat → xG → xA → Int32 → Int32 → Int32 → Int32 → Option (Int32 × xG × xA)
  | 0, _, _, _, _, _, _ => none
  | n + 1, g, a, x1, x2, x3, x4 => (if x4 < 0 then K43 g a (x1 ||| ((1 : Int32) <<< (x3 &&& 31))) (x2 + 1) else ck (inB x4 3) (Option.bind (f_X12_on g a x2 (a 6 (x4 : Int32).toNatClampNeg)) (fun u16 => f_X12_define_71 K43 n g a x1 x2 ((x3 * (g 0)) + u16) (x4 + (-1)))))
theorem e_X12_define_71 (K43 : xG → xA → Int32 → Int32 → Option (Int32 × xG × xA)) (n : Nat) (g : xG) (a : xA) (x1 : Int32) (x2 : Int32) (x3 : Int32) (x4 : Int32) : f_X12_define_71 K43 (n + 1) g a x1 x2 x3 x4 = (if x4 < 0 then K43 g a (x1 ||| ((1 : Int32) <<< (x3 &&& 31))) (x2 + 1) else ck (inB x4 3) (Option.bind (f_X12_on g a x2 (a 6 (x4 : Int32).toNatClampNeg)) (fun u16 => f_X12_define_71 K43 n g a x1 x2 ((x3 * (g 0)) + u16) (x4 + (-1))))) := rfl
def f_X12_define_43 : Nat → xG → xA → Int32 → Int32 → Option (Int32 × xG × xA)
  | 0, _, _, _, _ => none
  | n + 1, g, a, x1, x2 => Option.bind (f_X12_power g a 6) (fun u6 => (if u6 ≤ x2 then ck (inB ((upd g 3 0) 1) 8) (ck (inB ((upd g 3 0) 1) 8) (some ((((upd (upd g 3 0) 1 (((upd g 3 0) 1) + 1)) 1) - 1), (upd (upd g 3 0) 1 (((upd g 3 0) 1) + 1)), (upA (upA a 1 (upd (a 1) (((upd g 3 0) 1) : Int32).toNatClampNeg ((upd g 3 0) 4))) 2 (upd ((upA a 1 (upd (a 1) (((upd g 3 0) 1) : Int32).toNatClampNeg ((upd g 3 0) 4))) 2) (((upd g 3 0) 1) : Int32).toNatClampNeg x1))))) else Option.bind (f_X12_hold g a x2) (fun u11 => (if u11 = 0 then f_X12_define_43 n g a x1 (x2 + 1) else f_X12_define_71 (f_X12_define_43 n) fu g a x1 x2 0 ((g 4) - 1)))))
theorem e_X12_define_43 (n : Nat) (g : xG) (a : xA) (x1 : Int32) (x2 : Int32) : f_X12_define_43 (n + 1) g a x1 x2 = Option.bind (f_X12_power g a 6) (fun u6 => (if u6 ≤ x2 then ck (inB ((upd g 3 0) 1) 8) (ck (inB ((upd g 3 0) 1) 8) (some ((((upd (upd g 3 0) 1 (((upd g 3 0) 1) + 1)) 1) - 1), (upd (upd g 3 0) 1 (((upd g 3 0) 1) + 1)), (upA (upA a 1 (upd (a 1) (((upd g 3 0) 1) : Int32).toNatClampNeg ((upd g 3 0) 4))) 2 (upd ((upA a 1 (upd (a 1) (((upd g 3 0) 1) : Int32).toNatClampNeg ((upd g 3 0) 4))) 2) (((upd g 3 0) 1) : Int32).toNatClampNeg x1))))) else Option.bind (f_X12_hold g a x2) (fun u11 => (if u11 = 0 then f_X12_define_43 n g a x1 (x2 + 1) else f_X12_define_71 (f_X12_define_43 n) fu g a x1 x2 0 ((g 4) - 1))))) := rfl
def f_X12_define_27 (g : xG) (a : xA) (s0 : Int32) : Option (Int32 × xG × xA) := (if ((upd g 8 s0) 8) ≤ 0 then f_X12_define_43 fu (upd g 8 s0) a 0 0 else some (0, (upd g 8 s0), a))
def f_X12_define (g : xG) (a : xA) : Option (Int32 × xG × xA) := Option.bind (f_X12_reads g a) (fun u1 => (if u1.1 = (-1) then (if (u1.2.1 1) = 8 then f_X12_define_27 u1.2.1 u1.2.2 2 else f_X12_define_27 u1.2.1 u1.2.2 0) else f_X12_define_27 u1.2.1 u1.2.2 1))
set_option maxRecDepth 100000 in
set_option maxHeartbeats 40000000 in
theorem c_X12_define (l : Launch) (E : xE) (g : xG) (a : xA) {res : Int32 × xG × xA} (hf : f_X12_define g a = some res) : xM l E yX12_define cX12_define 5 (some .int) 4 89 [.ref (E.2.1 0)] (wM E g a) (xQi E res.1 (wM E res.2.1 res.2.2)) := by
  unfold f_X12_define at hf
  refine xM_of (by decide) (Nat.le_of_ble_eq_true rfl) ?_
  intro p e s m below meth c A hx hb hr hml hts hown hlocks hA hD hP hK hN hS ls hl
  have hw : ∀ w ∈ BW, w.before _ s = true := fun w h => hts w (List.mem_cons_of_mem _ h)
  have C0 : xCtx E p m c cX12_define 5 s _ RX12 A yX12_define cX12_define 5 (some .int) := ⟨hx, hb, hml, hown, hts, hA, hK, hN⟩
  have hl : lv_has ls 5 [(0, .ref (E.2.1 0))] := hl
  have B71 : ∀ (K43 : xG → xA → Int32 → Int32 → Option (Int32 × xG × xA)) (hK43 : ∀ (g : xG) (a : xA) (x1 : Int32) (x2 : Int32) (H : Heap) (locs : List Loc) (ls : Array Slot), va_P E.1 vwCl (wM E g a) H → va_S A s.heap H locs → lv_has ls 5 [(0, .ref (E.2.1 0)), (1, .int x1), (2, .int x2)] → K43 g a x1 x2 = some res → W p l e ({ frames := 4, cells := 0, slots := 0, locals := 89 }) s m ([.ref (E.2.1 0)] : List Value).toArray below meth c H locs 0 0 (MQ below ((xQi E res.1 (wM E res.2.1 res.2.2)) A) ([.ref (E.2.1 0)] : List Value).toArray s 0 0 A) (F0 m 43 ls [])) (n : Nat) (g : xG) (a : xA) (x1 : Int32) (x2 : Int32) (x3 : Int32) (x4 : Int32) (H : Heap) (locs : List Loc) (ls : Array Slot), va_P E.1 vwCl (wM E g a) H → va_S A s.heap H locs → lv_has ls 5 [(0, .ref (E.2.1 0)), (1, .int x1), (2, .int x2), (3, .int x3), (4, .int x4)] → f_X12_define_71 K43 n g a x1 x2 x3 x4 = some res → W p l e ({ frames := 4, cells := 0, slots := 0, locals := 89 }) s m ([.ref (E.2.1 0)] : List Value).toArray below meth c H locs 0 0 (MQ below ((xQi E res.1 (wM E res.2.1 res.2.2)) A) ([.ref (E.2.1 0)] : List Value).toArray s 0 0 A) (F0 m 71 ls []) := by
    intro K43 hK43 n
    induction n with
    | zero => intro g a x1 x2 x3 x4 H locs ls hP hS hl hf; exact absurd (show (none : Option (Int32 × xG × xA)) = some res from hf) (by intro h; cases h)
    | succ n ih =>
      intro g a x1 x2 x3 x4 H locs ls hP hS hl hf
      replace hf := (e_X12_define_71 K43 n g a x1 x2 x3 x4).symm.trans hf
      refine lv_iload hx hb dX12_define_71 (lv_at hl 4 rfl) ?_
      refine lv_if_lt (tgt := 102) hx hb dX12_define_73 (by decide) (fun c14 => ?_) (fun c14 => ?_)
      · replace hf := (if_pos c14).symm.trans hf
        refine lv_iload_n hx hb dX12_define_102 rfl (lv_at hl 1 rfl) ?_
        refine lv_iconst (v := 1) hx hb dX12_define_103 (by decide) ?_
        refine lv_iload_n hx hb dX12_define_104 rfl (lv_at hl 3 rfl) ?_
        refine lv_ishl hx hb dX12_define_105 ?_
        refine lv_ior hx hb dX12_define_106 ?_
        refine lv_istore_n (lv' := [(1, .int (x1 ||| ((1 : Int32) <<< (x3 &&& 31)))), (0, .ref (E.2.1 0)), (2, .int x2), (3, .int x3), (4, .int x4)]) hx hb dX12_define_107 rfl hl (by decide) rfl (fun ls hl => ?_)
        refine lv_iinc (v := (x2 + 1)) (lv' := [(2, .int (x2 + 1)), (1, .int (x1 ||| ((1 : Int32) <<< (x3 &&& 31)))), (0, .ref (E.2.1 0)), (3, .int x3), (4, .int x4)]) hx hb dX12_define_108 hl (k := 2) rfl rfl (by decide) rfl (fun ls hl => ?_)
        refine lv_goto (tgt := 43) hx hb dX12_define_111 (by decide) ?_
        exact hK43 g a (x1 ||| ((1 : Int32) <<< (x3 &&& 31))) (x2 + 1) _ _ _ hP hS (lv_sub hl [2, 1, 0] rfl) hf
      · replace hf := (if_neg c14).symm.trans hf
        refine lv_iload_n hx hb dX12_define_76 rfl (lv_at hl 3 rfl) ?_
        refine lv_aload_n hx hb dX12_define_77 rfl (lv_at hl 0 rfl) ?_
        refine va_get (C := RX12) (T := TX12) (N := 22) hx hb hw bfX120 hown hK hP 0 (gm_0 E g a) rfl 0 (by decide) (hw _ bw755) (fun _ h9 => h9) rfl dX12_define_78 ?_
        refine lv_imul hx hb dX12_define_81 ?_
        refine lv_aload_n hx hb dX12_define_82 rfl (lv_at hl 0 rfl) ?_
        refine lv_iload_n hx hb dX12_define_83 rfl (lv_at hl 2 rfl) ?_
        refine lv_aload_n hx hb dX12_define_84 rfl (lv_at hl 0 rfl) ?_
        refine va_get (C := RX12) (T := TX12) (N := 22) hx hb hw bfX120 hown hK hP 0 (gm_0 E g a) rfl 10 (by decide) (hw _ bw761) (fun _ h9 => h9) rfl dX12_define_85 ?_
        refine lv_iload hx hb dX12_define_88 (lv_at hl 4 rfl) ?_
        obtain ⟨k15, hf⟩ := ck_some hf
        refine va_iald hx hb hK hP 6 0 (gm_6 E g a) rfl (inB_in k15) dX12_define_90 ?_
        obtain ⟨u16, e17, hf⟩ := bd_some hf
        refine xci (xRunV (rest := [.int (x3 * (g 0))]) (As := [.int x2, .int (a 6 (x4 : Int32).toNatClampNeg)]) (C := RX12) (k := 2) C0 (c_X12_on l E g a x2 (a 6 (x4 : Int32).toNatClampNeg) e17) bw774 bw823 bw778 bw824 bw825 hd_X12_on ⟨Nat.le_of_ble_eq_true rfl, Nat.le_of_ble_eq_true rfl⟩ hP (wM_D hD) hS (va_recv hK hP (ci := 12) rfl (gm_0 E g a)) rfl hl.1 rfl (Nat.le_of_ble_eq_true rfl) dX12_define_91 ⟨Nat.zero_le _, Nat.zero_le _⟩) hS (fun H locs hP hS => ?_)
        refine lv_iadd hx hb dX12_define_94 ?_
        refine lv_istore_n (lv' := [(3, .int ((x3 * (g 0)) + u16)), (0, .ref (E.2.1 0)), (1, .int x1), (2, .int x2), (4, .int x4)]) hx hb dX12_define_95 rfl hl (by decide) rfl (fun ls hl => ?_)
        refine lv_iinc (v := (x4 + (-1))) (lv' := [(4, .int (x4 + (-1))), (3, .int ((x3 * (g 0)) + u16)), (0, .ref (E.2.1 0)), (1, .int x1), (2, .int x2)]) hx hb dX12_define_96 hl (k := 4) rfl rfl (by decide) rfl (fun ls hl => ?_)
        refine lv_goto (tgt := 71) hx hb dX12_define_99 (by decide) ?_
        exact ih g a x1 x2 ((x3 * (g 0)) + u16) (x4 + (-1)) _ _ _ hP hS (lv_sub hl [2, 3, 4, 1, 0] rfl) hf
  have B43 : ∀ (n : Nat) (g : xG) (a : xA) (x1 : Int32) (x2 : Int32) (H : Heap) (locs : List Loc) (ls : Array Slot), va_P E.1 vwCl (wM E g a) H → va_S A s.heap H locs → lv_has ls 5 [(0, .ref (E.2.1 0)), (1, .int x1), (2, .int x2)] → f_X12_define_43 n g a x1 x2 = some res → W p l e ({ frames := 4, cells := 0, slots := 0, locals := 89 }) s m ([.ref (E.2.1 0)] : List Value).toArray below meth c H locs 0 0 (MQ below ((xQi E res.1 (wM E res.2.1 res.2.2)) A) ([.ref (E.2.1 0)] : List Value).toArray s 0 0 A) (F0 m 43 ls []) := by
    intro n
    induction n with
    | zero => intro g a x1 x2 H locs ls hP hS hl hf; exact absurd (show (none : Option (Int32 × xG × xA)) = some res from hf) (by intro h; cases h)
    | succ n ih =>
      intro g a x1 x2 H locs ls hP hS hl hf
      replace hf := (e_X12_define_43 n g a x1 x2).symm.trans hf
      refine lv_iload_n hx hb dX12_define_43 rfl (lv_at hl 2 rfl) ?_
      refine lv_aload_n hx hb dX12_define_44 rfl (lv_at hl 0 rfl) ?_
      refine lv_bipush (v := 6) hx hb dX12_define_45 (by decide) ?_
      obtain ⟨u6, e7, hf⟩ := bd_some hf
      refine xci (xRunV (rest := [.int x2]) (As := [.int 6]) (C := RX12) (k := 1) C0 (c_X12_power l E g a 6 e7) bw773 bw775 bw778 bw776 bw777 hd_X12_power ⟨Nat.le_of_ble_eq_true rfl, Nat.le_of_ble_eq_true rfl⟩ hP (wM_D hD) hS (va_recv hK hP (ci := 12) rfl (gm_0 E g a)) rfl hl.1 rfl (Nat.le_of_ble_eq_true rfl) dX12_define_47 ⟨Nat.zero_le _, Nat.zero_le _⟩) hS (fun H locs hP hS => ?_)
      refine lv_icmp_ge (tgt := 114) hx hb dX12_define_50 (by decide) (fun c8 => ?_) (fun c8 => ?_)
      · replace hf := (if_pos c8).symm.trans hf
        refine lv_aload_n hx hb dX12_define_114 rfl (lv_at hl 0 rfl) ?_
        refine lv_iconst (v := 0) hx hb dX12_define_115 (by decide) ?_
        refine va_put (v := .int 0) (ty := .int) (C := RX12) (T := TX12) (N := 22) hx hb hw bfX120 tyX12 tyX12_ok nmX12 hown hK hP (wM_D hD) hS 0 (gm_0 E g a) rfl 7 (by decide) (hw _ bw920) (fun _ h9 => h9) rfl (by decide +kernel) rfl rfl (Nat.le_of_ble_eq_true rfl) dX12_define_116 (fun H locs hP _ hS => ?_)
        have hP := xP_eq (sm_g3 E g a 0) hP
        refine lv_aload_n hx hb dX12_define_119 rfl (lv_at hl 0 rfl) ?_
        refine va_get (C := RX12) (T := TX12) (N := 22) hx hb hw bfX120 hown hK hP 0 (gm_0 E (upd g 3 0) a) rfl 2 (by decide) (hw _ bw756) (fun _ h9 => h9) rfl dX12_define_120 ?_
        refine lv_aload_n hx hb dX12_define_123 rfl (lv_at hl 0 rfl) ?_
        refine va_get (C := RX12) (T := TX12) (N := 22) hx hb hw bfX120 hown hK hP 0 (gm_0 E (upd g 3 0) a) rfl 1 (by decide) (hw _ bw782) (fun _ h9 => h9) rfl dX12_define_124 ?_
        refine lv_aload_n hx hb dX12_define_127 rfl (lv_at hl 0 rfl) ?_
        refine va_get (C := RX12) (T := TX12) (N := 22) hx hb hw bfX120 hown hK hP 0 (gm_0 E (upd g 3 0) a) rfl 9 (by decide) (hw _ bw930) (fun _ h9 => h9) rfl dX12_define_128 ?_
        obtain ⟨k9, hf⟩ := ck_some hf
        refine va_iast hx hb hK hP (wM_D hD) hS 1 0 (gm_1 E (upd g 3 0) a) rfl (inB_in k9) dX12_define_131 (fun H locs hP _ hS => ?_)
        have hP := xP_eq (sm_a1 E (upd g 3 0) a (upd (a 1) (((upd g 3 0) 1) : Int32).toNatClampNeg ((upd g 3 0) 4))) hP
        refine lv_aload_n hx hb dX12_define_132 rfl (lv_at hl 0 rfl) ?_
        refine va_get (C := RX12) (T := TX12) (N := 22) hx hb hw bfX120 hown hK hP 0 (gm_0 E (upd g 3 0) (upA a 1 (upd (a 1) (((upd g 3 0) 1) : Int32).toNatClampNeg ((upd g 3 0) 4)))) rfl 3 (by decide) (hw _ bw757) (fun _ h9 => h9) rfl dX12_define_133 ?_
        refine lv_aload_n hx hb dX12_define_136 rfl (lv_at hl 0 rfl) ?_
        refine va_get (C := RX12) (T := TX12) (N := 22) hx hb hw bfX120 hown hK hP 0 (gm_0 E (upd g 3 0) (upA a 1 (upd (a 1) (((upd g 3 0) 1) : Int32).toNatClampNeg ((upd g 3 0) 4)))) rfl 1 (by decide) (hw _ bw782) (fun _ h9 => h9) rfl dX12_define_137 ?_
        refine lv_iload_n hx hb dX12_define_140 rfl (lv_at hl 1 rfl) ?_
        obtain ⟨k10, hf⟩ := ck_some hf
        refine va_iast hx hb hK hP (wM_D hD) hS 2 0 (gm_2 E (upd g 3 0) (upA a 1 (upd (a 1) (((upd g 3 0) 1) : Int32).toNatClampNeg ((upd g 3 0) 4)))) rfl (inB_in k10) dX12_define_141 (fun H locs hP _ hS => ?_)
        have hP := xP_eq (sm_a2 E (upd g 3 0) (upA a 1 (upd (a 1) (((upd g 3 0) 1) : Int32).toNatClampNeg ((upd g 3 0) 4))) (upd ((upA a 1 (upd (a 1) (((upd g 3 0) 1) : Int32).toNatClampNeg ((upd g 3 0) 4))) 2) (((upd g 3 0) 1) : Int32).toNatClampNeg x1)) hP
        refine lv_aload_n hx hb dX12_define_142 rfl (lv_at hl 0 rfl) ?_
        refine lv_dup hx hb dX12_define_143 rfl ?_
        refine va_get (C := RX12) (T := TX12) (N := 22) hx hb hw bfX120 hown hK hP 0 (gm_0 E (upd g 3 0) (upA (upA a 1 (upd (a 1) (((upd g 3 0) 1) : Int32).toNatClampNeg ((upd g 3 0) 4))) 2 (upd ((upA a 1 (upd (a 1) (((upd g 3 0) 1) : Int32).toNatClampNeg ((upd g 3 0) 4))) 2) (((upd g 3 0) 1) : Int32).toNatClampNeg x1))) rfl 1 (by decide) (hw _ bw782) (fun _ h9 => h9) rfl dX12_define_144 ?_
        refine lv_iconst (v := 1) hx hb dX12_define_147 (by decide) ?_
        refine lv_iadd hx hb dX12_define_148 ?_
        refine va_put (v := .int (((upd g 3 0) 1) + 1)) (ty := .int) (C := RX12) (T := TX12) (N := 22) hx hb hw bfX120 tyX12 tyX12_ok nmX12 hown hK hP (wM_D hD) hS 0 (gm_0 E (upd g 3 0) (upA (upA a 1 (upd (a 1) (((upd g 3 0) 1) : Int32).toNatClampNeg ((upd g 3 0) 4))) 2 (upd ((upA a 1 (upd (a 1) (((upd g 3 0) 1) : Int32).toNatClampNeg ((upd g 3 0) 4))) 2) (((upd g 3 0) 1) : Int32).toNatClampNeg x1))) rfl 1 (by decide) (hw _ bw782) (fun _ h9 => h9) rfl (by decide +kernel) rfl rfl (Nat.le_of_ble_eq_true rfl) dX12_define_149 (fun H locs hP _ hS => ?_)
        have hP := xP_eq (sm_g1 E (upd g 3 0) (upA (upA a 1 (upd (a 1) (((upd g 3 0) 1) : Int32).toNatClampNeg ((upd g 3 0) 4))) 2 (upd ((upA a 1 (upd (a 1) (((upd g 3 0) 1) : Int32).toNatClampNeg ((upd g 3 0) 4))) 2) (((upd g 3 0) 1) : Int32).toNatClampNeg x1)) (((upd g 3 0) 1) + 1)) hP
        refine lv_aload_n hx hb dX12_define_152 rfl (lv_at hl 0 rfl) ?_
        refine va_get (C := RX12) (T := TX12) (N := 22) hx hb hw bfX120 hown hK hP 0 (gm_0 E (upd (upd g 3 0) 1 (((upd g 3 0) 1) + 1)) (upA (upA a 1 (upd (a 1) (((upd g 3 0) 1) : Int32).toNatClampNeg ((upd g 3 0) 4))) 2 (upd ((upA a 1 (upd (a 1) (((upd g 3 0) 1) : Int32).toNatClampNeg ((upd g 3 0) 4))) 2) (((upd g 3 0) 1) : Int32).toNatClampNeg x1))) rfl 1 (by decide) (hw _ bw782) (fun _ h9 => h9) rfl dX12_define_153 ?_
        refine lv_iconst (v := 1) hx hb dX12_define_156 (by decide) ?_
        refine lv_isub hx hb dX12_define_157 ?_
        exact xi_retS (fr := (fun r => r.1)) (fw := (fun r => wM E r.2.1 r.2.2)) hx hb hr hlocks (Option.some.inj hf) hP hS dX12_define_158
      · replace hf := (if_neg c8).symm.trans hf
        refine lv_aload_n hx hb dX12_define_53 rfl (lv_at hl 0 rfl) ?_
        refine lv_iload_n hx hb dX12_define_54 rfl (lv_at hl 2 rfl) ?_
        obtain ⟨u11, e12, hf⟩ := bd_some hf
        refine xci (xRunV (rest := []) (As := [.int x2]) (C := RX12) (k := 1) C0 (c_X12_hold l E g a x2 e12) bw947 bw948 bw778 bw949 bw950 hd_X12_hold ⟨Nat.le_of_ble_eq_true rfl, Nat.le_of_ble_eq_true rfl⟩ hP (wM_D hD) hS (va_recv hK hP (ci := 12) rfl (gm_0 E g a)) rfl hl.1 rfl (Nat.le_of_ble_eq_true rfl) dX12_define_55 ⟨Nat.zero_le _, Nat.zero_le _⟩) hS (fun H locs hP hS => ?_)
        refine lv_if_eq (tgt := 108) hx hb dX12_define_58 (by decide) (fun c13 => ?_) (fun c13 => ?_)
        · replace hf := (if_pos c13).symm.trans hf
          refine lv_iinc (v := (x2 + 1)) (lv' := [(2, .int (x2 + 1)), (0, .ref (E.2.1 0)), (1, .int x1)]) hx hb dX12_define_108 hl (k := 2) rfl rfl (by decide) rfl (fun ls hl => ?_)
          refine lv_goto (tgt := 43) hx hb dX12_define_111 (by decide) ?_
          exact ih g a x1 (x2 + 1) _ _ _ hP hS (lv_sub hl [1, 2, 0] rfl) hf
        · replace hf := (if_neg c13).symm.trans hf
          refine lv_iconst (v := 0) hx hb dX12_define_61 (by decide) ?_
          refine lv_istore_n (lv' := [(3, .int 0), (0, .ref (E.2.1 0)), (1, .int x1), (2, .int x2)]) hx hb dX12_define_62 rfl hl (by decide) rfl (fun ls hl => ?_)
          refine lv_aload_n hx hb dX12_define_63 rfl (lv_at hl 1 rfl) ?_
          refine va_get (C := RX12) (T := TX12) (N := 22) hx hb hw bfX120 hown hK hP 0 (gm_0 E g a) rfl 9 (by decide) (hw _ bw930) (fun _ h9 => h9) rfl dX12_define_64 ?_
          refine lv_iconst (v := 1) hx hb dX12_define_67 (by decide) ?_
          refine lv_isub hx hb dX12_define_68 ?_
          refine lv_istore (lv' := [(4, .int ((g 4) - 1)), (3, .int 0), (0, .ref (E.2.1 0)), (1, .int x1), (2, .int x2)]) hx hb dX12_define_69 hl (by decide) rfl (fun ls hl => ?_)
          exact B71 (f_X12_define_43 n) ih fu g a x1 x2 0 ((g 4) - 1) _ _ _ hP hS (lv_sub hl [2, 3, 4, 1, 0] rfl) hf
  have B27 : ∀ (g : xG) (a : xA) (s0 : Int32) (H : Heap) (locs : List Loc) (ls : Array Slot), va_P E.1 vwCl (wM E g a) H → va_S A s.heap H locs → lv_has ls 5 [(0, .ref (E.2.1 0))] → f_X12_define_27 g a s0 = some res → W p l e ({ frames := 4, cells := 0, slots := 0, locals := 89 }) s m ([.ref (E.2.1 0)] : List Value).toArray below meth c H locs 0 0 (MQ below ((xQi E res.1 (wM E res.2.1 res.2.2)) A) ([.ref (E.2.1 0)] : List Value).toArray s 0 0 A) (F0 m 27 ls [.int s0, .ref (E.2.1 0)]) := by
    intro g a s0 H locs ls hP hS hl hf
    unfold f_X12_define_27 at hf
    refine va_put (v := .int s0) (ty := .int) (C := RX12) (T := TX12) (N := 22) hx hb hw bfX120 tyX12 tyX12_ok nmX12 hown hK hP (wM_D hD) hS 0 (gm_0 E g a) rfl 21 (by decide) (hw _ bw771) (fun _ h9 => h9) rfl (by decide +kernel) rfl rfl (Nat.le_of_ble_eq_true rfl) dX12_define_27 (fun H locs hP _ hS => ?_)
    have hP := xP_eq (sm_g8 E g a s0) hP
    refine lv_aload_n hx hb dX12_define_30 rfl (lv_at hl 0 rfl) ?_
    refine va_get (C := RX12) (T := TX12) (N := 22) hx hb hw bfX120 hown hK hP 0 (gm_0 E (upd g 8 s0) a) rfl 21 (by decide) (hw _ bw771) (fun _ h9 => h9) rfl dX12_define_31 ?_
    refine lv_if_le (tgt := 39) hx hb dX12_define_34 (by decide) (fun c5 => ?_) (fun c5 => ?_)
    · replace hf := (if_pos c5).symm.trans hf
      refine lv_iconst (v := 0) hx hb dX12_define_39 (by decide) ?_
      refine lv_istore_n (lv' := [(1, .int 0), (0, .ref (E.2.1 0))]) hx hb dX12_define_40 rfl hl (by decide) rfl (fun ls hl => ?_)
      refine lv_iconst (v := 0) hx hb dX12_define_41 (by decide) ?_
      refine lv_istore_n (lv' := [(2, .int 0), (1, .int 0), (0, .ref (E.2.1 0))]) hx hb dX12_define_42 rfl hl (by decide) rfl (fun ls hl => ?_)
      exact B43 fu (upd g 8 s0) a 0 0 _ _ _ hP hS (lv_sub hl [2, 1, 0] rfl) hf
    · replace hf := (if_neg c5).symm.trans hf
      refine lv_iconst (v := 0) hx hb dX12_define_37 (by decide) ?_
      exact xi_retS (fr := (fun r => r.1)) (fw := (fun r => wM E r.2.1 r.2.2)) hx hb hr hlocks (Option.some.inj hf) hP hS dX12_define_38
  refine lv_aload_n hx hb dX12_define_0 rfl (lv_at hl 0 rfl) ?_
  refine lv_aload_n hx hb dX12_define_1 rfl (lv_at hl 0 rfl) ?_
  obtain ⟨u1, e2, hf⟩ := bd_some hf
  refine xci (xRunV (rest := [.ref (E.2.1 0)]) (As := []) (C := RX12) (k := 0) C0 (c_X12_reads l E g a e2) bw942 bw943 bw778 bw944 bw945 hd_X12_reads ⟨Nat.le_of_ble_eq_true rfl, Nat.le_of_ble_eq_true rfl⟩ hP (wM_D hD) hS (va_recv hK hP (ci := 12) rfl (gm_0 E g a)) rfl hl.1 rfl (Nat.le_of_ble_eq_true rfl) dX12_define_2 ⟨Nat.zero_le _, Nat.zero_le _⟩) hS (fun H locs hP hS => ?_)
  refine lv_iconst (v := (-1)) hx hb dX12_define_5 (by decide) ?_
  refine lv_icmp_eq (tgt := 13) hx hb dX12_define_6 (by decide) (fun c3 => ?_) (fun c3 => ?_)
  · replace hf := (if_pos c3).symm.trans hf
    refine lv_aload_n hx hb dX12_define_13 rfl (lv_at hl 0 rfl) ?_
    refine va_get (C := RX12) (T := TX12) (N := 22) hx hb hw bfX120 hown hK hP 0 (gm_0 E u1.2.1 u1.2.2) rfl 1 (by decide) (hw _ bw782) (fun _ h9 => h9) rfl dX12_define_14 ?_
    refine lv_bipush (v := 8) hx hb dX12_define_17 (by decide) ?_
    refine lv_icmp_ne (tgt := 26) hx hb dX12_define_19 (by decide) (fun c4 => ?_) (fun c4 => ?_)
    · replace hf := (if_neg c4).symm.trans hf
      refine lv_iconst (v := 0) hx hb dX12_define_26 (by decide) ?_
      exact B27 u1.2.1 u1.2.2 0 _ _ _ hP hS (lv_sub hl [0] rfl) hf
    · replace hf := (if_pos c4).symm.trans hf
      refine lv_iconst (v := 2) hx hb dX12_define_22 (by decide) ?_
      refine lv_goto (tgt := 27) hx hb dX12_define_23 (by decide) ?_
      exact B27 u1.2.1 u1.2.2 2 _ _ _ hP hS (lv_sub hl [0] rfl) hf
  · replace hf := (if_neg c3).symm.trans hf
    refine lv_iconst (v := 1) hx hb dX12_define_9 (by decide) ?_
    refine lv_goto (tgt := 27) hx hb dX12_define_10 (by decide) ?_
    exact B27 u1.2.1 u1.2.2 1 _ _ _ hP hS (lv_sub hl [0] rfl) hf
def t_X12_instance (g : xG) (a : xA) (v1 : Int32) : Int32 × xG := (if (t_X12_in g a v1 1 6) = 0 then (if ((upd g 8 1) 8) ≤ 0 then (((upd g 8 1) 7), (upd (upd (upd g 8 1) 6 v1) 7 0)) else (0, (upd g 8 1))) else (if ((upd g 8 0) 8) ≤ 0 then (((upd g 8 0) 7), (upd (upd (upd g 8 0) 6 v1) 7 0)) else (0, (upd g 8 0))))
set_option maxRecDepth 100000 in
set_option maxHeartbeats 40000000 in
theorem c_X12_instance (l : Launch) (E : xE) (g : xG) (a : xA) (v1 : Int32) : xM l E yX12_instance cX12_instance 3 (some .int) 1 22 [.ref (E.2.1 0), .int v1] (wM E g a) (xQi E (t_X12_instance g a v1).1 (wM E (t_X12_instance g a v1).2 a)) := by
  obtain ⟨res, hres⟩ : ∃ z, z = t_X12_instance g a v1 := ⟨_, rfl⟩
  rw [← hres]
  have hf : _ = res := hres.symm
  unfold t_X12_instance at hf
  refine xM_of (by decide) (Nat.le_of_ble_eq_true rfl) ?_
  intro p e s m below meth c A hx hb hr hml hts hown hlocks hA hD hP hK hN hS ls hl
  have hw : ∀ w ∈ BW, w.before _ s = true := fun w h => hts w (List.mem_cons_of_mem _ h)
  have C0 : xCtx E p m c cX12_instance 3 s _ RX12 A yX12_instance cX12_instance 3 (some .int) := ⟨hx, hb, hml, hown, hts, hA, hK, hN⟩
  have hl : lv_has ls 3 [(0, .ref (E.2.1 0)), (1, .int v1)] := hl
  refine lv_aload_n hx hb dX12_instance_0 rfl (lv_at hl 0 rfl) ?_
  refine lv_iload_n hx hb dX12_instance_1 rfl (lv_at hl 1 rfl) ?_
  refine lv_iconst (v := 1) hx hb dX12_instance_2 (by decide) ?_
  refine lv_bipush (v := 6) hx hb dX12_instance_3 (by decide) ?_
  refine xci (xRunS (rest := [.ref (E.2.1 0)]) (As := [.int v1, .int 1, .int 6]) (k := 3) C0 (c_X12_in l E g a v1 1 6) bw772 bw785 bw778 bw786 hd_X12_in ⟨Nat.le_of_ble_eq_true rfl, Nat.le_of_ble_eq_true rfl⟩ hP (wM_D hD) hS rfl hl.1 rfl (Nat.le_of_ble_eq_true rfl) dX12_instance_5 ⟨Nat.zero_le _, Nat.zero_le _⟩) hS (fun H locs hP hS => ?_)
  refine lv_if_eq (tgt := 15) hx hb dX12_instance_8 (by decide) (fun c1 => ?_) (fun c1 => ?_)
  · replace hf := (if_pos c1).symm.trans hf
    refine lv_iconst (v := 1) hx hb dX12_instance_15 (by decide) ?_
    refine va_put (v := .int 1) (ty := .int) (C := RX12) (T := TX12) (N := 22) hx hb hw bfX120 tyX12 tyX12_ok nmX12 hown hK hP (wM_D hD) hS 0 (gm_0 E g a) rfl 21 (by decide) (hw _ bw771) (fun _ h9 => h9) rfl (by decide +kernel) rfl rfl (Nat.le_of_ble_eq_true rfl) dX12_instance_16 (fun H locs hP _ hS => ?_)
    have hP := xP_eq (sm_g8 E g a 1) hP
    refine lv_aload_n hx hb dX12_instance_19 rfl (lv_at hl 0 rfl) ?_
    refine va_get (C := RX12) (T := TX12) (N := 22) hx hb hw bfX120 hown hK hP 0 (gm_0 E (upd g 8 1) a) rfl 21 (by decide) (hw _ bw771) (fun _ h9 => h9) rfl dX12_instance_20 ?_
    refine lv_if_le (tgt := 28) hx hb dX12_instance_23 (by decide) (fun c2 => ?_) (fun c2 => ?_)
    · replace hf := (if_pos c2).symm.trans hf
      refine lv_aload_n hx hb dX12_instance_28 rfl (lv_at hl 0 rfl) ?_
      refine va_get (C := RX12) (T := TX12) (N := 22) hx hb hw bfX120 hown hK hP 0 (gm_0 E (upd g 8 1) a) rfl 15 (by decide) (hw _ bw784) (fun _ h9 => h9) rfl dX12_instance_29 ?_
      refine lv_istore_n (lv' := [(2, .int ((upd g 8 1) 7)), (0, .ref (E.2.1 0)), (1, .int v1)]) hx hb dX12_instance_32 rfl hl (by decide) rfl (fun ls hl => ?_)
      refine lv_aload_n hx hb dX12_instance_33 rfl (lv_at hl 1 rfl) ?_
      refine lv_iload_n hx hb dX12_instance_34 rfl (lv_at hl 2 rfl) ?_
      refine va_put (v := .int v1) (ty := .int) (C := RX12) (T := TX12) (N := 22) hx hb hw bfX120 tyX12 tyX12_ok nmX12 hown hK hP (wM_D hD) hS 0 (gm_0 E (upd g 8 1) a) rfl 14 (by decide) (hw _ bw764) (fun _ h9 => h9) rfl (by decide +kernel) rfl rfl (Nat.le_of_ble_eq_true rfl) dX12_instance_35 (fun H locs hP _ hS => ?_)
      have hP := xP_eq (sm_g6 E (upd g 8 1) a v1) hP
      refine lv_aload_n hx hb dX12_instance_38 rfl (lv_at hl 1 rfl) ?_
      refine lv_iconst (v := 0) hx hb dX12_instance_39 (by decide) ?_
      refine va_put (v := .int 0) (ty := .int) (C := RX12) (T := TX12) (N := 22) hx hb hw bfX120 tyX12 tyX12_ok nmX12 hown hK hP (wM_D hD) hS 0 (gm_0 E (upd (upd g 8 1) 6 v1) a) rfl 15 (by decide) (hw _ bw784) (fun _ h9 => h9) rfl (by decide +kernel) rfl rfl (Nat.le_of_ble_eq_true rfl) dX12_instance_40 (fun H locs hP _ hS => ?_)
      have hP := xP_eq (sm_g7 E (upd (upd g 8 1) 6 v1) a 0) hP
      refine lv_iload_n hx hb dX12_instance_43 rfl (lv_at hl 0 rfl) ?_
      exact xi_retS (fr := (fun r => r.1)) (fw := (fun r => wM E r.2 a)) hx hb hr hlocks hf hP hS dX12_instance_44
    · replace hf := (if_neg c2).symm.trans hf
      refine lv_iconst (v := 0) hx hb dX12_instance_26 (by decide) ?_
      exact xi_retS (fr := (fun r => r.1)) (fw := (fun r => wM E r.2 a)) hx hb hr hlocks hf hP hS dX12_instance_27
  · replace hf := (if_neg c1).symm.trans hf
    refine lv_iconst (v := 0) hx hb dX12_instance_11 (by decide) ?_
    refine lv_goto (tgt := 16) hx hb dX12_instance_12 (by decide) ?_
    refine va_put (v := .int 0) (ty := .int) (C := RX12) (T := TX12) (N := 22) hx hb hw bfX120 tyX12 tyX12_ok nmX12 hown hK hP (wM_D hD) hS 0 (gm_0 E g a) rfl 21 (by decide) (hw _ bw771) (fun _ h9 => h9) rfl (by decide +kernel) rfl rfl (Nat.le_of_ble_eq_true rfl) dX12_instance_16 (fun H locs hP _ hS => ?_)
    have hP := xP_eq (sm_g8 E g a 0) hP
    refine lv_aload_n hx hb dX12_instance_19 rfl (lv_at hl 0 rfl) ?_
    refine va_get (C := RX12) (T := TX12) (N := 22) hx hb hw bfX120 hown hK hP 0 (gm_0 E (upd g 8 0) a) rfl 21 (by decide) (hw _ bw771) (fun _ h9 => h9) rfl dX12_instance_20 ?_
    refine lv_if_le (tgt := 28) hx hb dX12_instance_23 (by decide) (fun c3 => ?_) (fun c3 => ?_)
    · replace hf := (if_pos c3).symm.trans hf
      refine lv_aload_n hx hb dX12_instance_28 rfl (lv_at hl 0 rfl) ?_
      refine va_get (C := RX12) (T := TX12) (N := 22) hx hb hw bfX120 hown hK hP 0 (gm_0 E (upd g 8 0) a) rfl 15 (by decide) (hw _ bw784) (fun _ h9 => h9) rfl dX12_instance_29 ?_
      refine lv_istore_n (lv' := [(2, .int ((upd g 8 0) 7)), (0, .ref (E.2.1 0)), (1, .int v1)]) hx hb dX12_instance_32 rfl hl (by decide) rfl (fun ls hl => ?_)
      refine lv_aload_n hx hb dX12_instance_33 rfl (lv_at hl 1 rfl) ?_
      refine lv_iload_n hx hb dX12_instance_34 rfl (lv_at hl 2 rfl) ?_
      refine va_put (v := .int v1) (ty := .int) (C := RX12) (T := TX12) (N := 22) hx hb hw bfX120 tyX12 tyX12_ok nmX12 hown hK hP (wM_D hD) hS 0 (gm_0 E (upd g 8 0) a) rfl 14 (by decide) (hw _ bw764) (fun _ h9 => h9) rfl (by decide +kernel) rfl rfl (Nat.le_of_ble_eq_true rfl) dX12_instance_35 (fun H locs hP _ hS => ?_)
      have hP := xP_eq (sm_g6 E (upd g 8 0) a v1) hP
      refine lv_aload_n hx hb dX12_instance_38 rfl (lv_at hl 1 rfl) ?_
      refine lv_iconst (v := 0) hx hb dX12_instance_39 (by decide) ?_
      refine va_put (v := .int 0) (ty := .int) (C := RX12) (T := TX12) (N := 22) hx hb hw bfX120 tyX12 tyX12_ok nmX12 hown hK hP (wM_D hD) hS 0 (gm_0 E (upd (upd g 8 0) 6 v1) a) rfl 15 (by decide) (hw _ bw784) (fun _ h9 => h9) rfl (by decide +kernel) rfl rfl (Nat.le_of_ble_eq_true rfl) dX12_instance_40 (fun H locs hP _ hS => ?_)
      have hP := xP_eq (sm_g7 E (upd (upd g 8 0) 6 v1) a 0) hP
      refine lv_iload_n hx hb dX12_instance_43 rfl (lv_at hl 0 rfl) ?_
      exact xi_retS (fr := (fun r => r.1)) (fw := (fun r => wM E r.2 a)) hx hb hr hlocks hf hP hS dX12_instance_44
    · replace hf := (if_neg c3).symm.trans hf
      refine lv_iconst (v := 0) hx hb dX12_instance_26 (by decide) ?_
      exact xi_retS (fr := (fun r => r.1)) (fw := (fun r => wM E r.2 a)) hx hb hr hlocks hf hP hS dX12_instance_27
