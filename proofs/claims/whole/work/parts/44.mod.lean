/-! X12_isVariableOrNone, X12_constrain, X12_isSolution, X12_solutions, X12_solutionsAnew, X12_solve, X12_canStand, X12_isHeld, X12_concerns, X12_findsLeft, X12_left, X12_canBoth -/
def f_X12_isVariableOrNone (g : xG) (a : xA) (v1 : Int32) : Option (Int32) := ck (boB (t_X12_in g a v1 (-1) ((g 6) - 1))) (some (t_X12_in g a v1 (-1) ((g 6) - 1)))
set_option maxRecDepth 100000 in
set_option maxHeartbeats 40000000 in
theorem c_X12_isVariableOrNone (l : Launch) (E : xE) (g : xG) (a : xA) (v1 : Int32) {res : Int32} (hf : f_X12_isVariableOrNone g a v1 = some res) : xM l E yX12_isVariableOrNone cX12_isVariableOrNone 2 (some .boolean) 1 22 [.ref (E.2.1 0), .int v1] (wM E g a) (xQi E res (wM E g a)) := by
  unfold f_X12_isVariableOrNone at hf
  refine xM_of (by decide) (Nat.le_of_ble_eq_true rfl) ?_
  intro p e s m below meth c A hx hb hr hml hts hown hlocks hA hD hP hK hN hS ls hl
  have hw : ∀ w ∈ BW, w.before _ s = true := fun w h => hts w (List.mem_cons_of_mem _ h)
  have C0 : xCtx E p m c cX12_isVariableOrNone 2 s _ RX12 A yX12_isVariableOrNone cX12_isVariableOrNone 2 (some .boolean) := ⟨hx, hb, hml, hown, hts, hA, hK, hN⟩
  have hl : lv_has ls 2 [(0, .ref (E.2.1 0)), (1, .int v1)] := hl
  refine lv_iload_n hx hb dX12_isVariableOrNone_0 rfl (lv_at hl 1 rfl) ?_
  refine lv_iconst (v := (-1)) hx hb dX12_isVariableOrNone_1 (by decide) ?_
  refine lv_aload_n hx hb dX12_isVariableOrNone_2 rfl (lv_at hl 0 rfl) ?_
  refine va_get (C := RX12) (T := TX12) (N := 22) hx hb hw bfX120 hown hK hP 0 (gm_0 E g a) rfl 14 (by decide) (hw _ bw764) (fun _ h9 => h9) rfl dX12_isVariableOrNone_3 ?_
  refine lv_iconst (v := 1) hx hb dX12_isVariableOrNone_6 (by decide) ?_
  refine lv_isub hx hb dX12_isVariableOrNone_7 ?_
  refine xci (xRunS (rest := []) (As := [.int v1, .int (-1), .int ((g 6) - 1)]) (k := 3) C0 (c_X12_in l E g a v1 (-1) ((g 6) - 1)) bw772 bw785 bw778 bw786 hd_X12_in ⟨Nat.le_of_ble_eq_true rfl, Nat.le_of_ble_eq_true rfl⟩ hP (wM_D hD) hS rfl hl.1 rfl (Nat.le_of_ble_eq_true rfl) dX12_isVariableOrNone_8 ⟨Nat.zero_le _, Nat.zero_le _⟩) hS (fun H locs hP hS => ?_)
  obtain ⟨k1, hf⟩ := ck_some hf
  exact xz_retS (fr := (fun r => r)) (fw := (fun r => wM E g a)) hx hb hr hlocks (Option.some.inj hf) (boB_bo k1) hP hS dX12_isVariableOrNone_11
def f_X12_constrain_156 (g : xG) (a : xA) (x1 : Int32) (x2 : Int32) (x3 : Int32) (x4 : Int32) (s0 : Int32) : Option (Int32 × xG × xA) := (if ((upd g 8 s0) 8) ≤ 0 then ck (inB ((upd g 8 s0) 7) 16) (ck (inB (3 * ((upd g 8 s0) 7)) 48) (ck (inB ((3 * ((upd g 8 s0) 7)) + 1) 48) (ck (inB ((3 * ((upd g 8 s0) 7)) + 2) 48) (some (((upd (upd g 8 s0) 7 (((upd g 8 s0) 7) + 1)) 7), (upd (upd g 8 s0) 7 (((upd g 8 s0) 7) + 1)), (upA (upA (upA (upA a 9 (upd (a 9) (((upd g 8 s0) 7) : Int32).toNatClampNeg x1)) 10 (upd ((upA a 9 (upd (a 9) (((upd g 8 s0) 7) : Int32).toNatClampNeg x1)) 10) ((3 * ((upd g 8 s0) 7)) : Int32).toNatClampNeg x2)) 10 (upd ((upA (upA a 9 (upd (a 9) (((upd g 8 s0) 7) : Int32).toNatClampNeg x1)) 10 (upd ((upA a 9 (upd (a 9) (((upd g 8 s0) 7) : Int32).toNatClampNeg x1)) 10) ((3 * ((upd g 8 s0) 7)) : Int32).toNatClampNeg x2)) 10) (((3 * ((upd g 8 s0) 7)) + 1) : Int32).toNatClampNeg x3)) 10 (upd ((upA (upA (upA a 9 (upd (a 9) (((upd g 8 s0) 7) : Int32).toNatClampNeg x1)) 10 (upd ((upA a 9 (upd (a 9) (((upd g 8 s0) 7) : Int32).toNatClampNeg x1)) 10) ((3 * ((upd g 8 s0) 7)) : Int32).toNatClampNeg x2)) 10 (upd ((upA (upA a 9 (upd (a 9) (((upd g 8 s0) 7) : Int32).toNatClampNeg x1)) 10 (upd ((upA a 9 (upd (a 9) (((upd g 8 s0) 7) : Int32).toNatClampNeg x1)) 10) ((3 * ((upd g 8 s0) 7)) : Int32).toNatClampNeg x2)) 10) (((3 * ((upd g 8 s0) 7)) + 1) : Int32).toNatClampNeg x3)) 10) (((3 * ((upd g 8 s0) 7)) + 2) : Int32).toNatClampNeg x4))))))) else some (0, (upd g 8 s0), a))
def f_X12_constrain_130 (g : xG) (a : xA) (x1 : Int32) (x2 : Int32) (x3 : Int32) (x4 : Int32) (s0 : Int32) : Option (Int32 × xG × xA) := (if s0 = 0 then f_X12_constrain_156 g a x1 x2 x3 x4 2 else (if (g 7) = 16 then f_X12_constrain_156 g a x1 x2 x3 x4 3 else f_X12_constrain_156 g a x1 x2 x3 x4 0))
def f_X12_constrain_122 (g : xG) (a : xA) (x1 : Int32) (x2 : Int32) (x3 : Int32) (x4 : Int32) (s0 : Int32) (s1 : Int32) : Option (Int32 × xG × xA) := (if s1 = s0 then f_X12_constrain_130 g a x1 x2 x3 x4 1 else f_X12_constrain_130 g a x1 x2 x3 x4 0)
def f_X12_constrain_107 (g : xG) (a : xA) (x1 : Int32) (x2 : Int32) (x3 : Int32) (x4 : Int32) (s0 : Int32) : Option (Int32 × xG × xA) := ck (inB x1 8) ((if (a 1 (x1 : Int32).toNatClampNeg) ≤ 2 then f_X12_constrain_122 g a x1 x2 x3 x4 0 s0 else f_X12_constrain_122 g a x1 x2 x3 x4 1 s0))
def f_X12_constrain_93 (g : xG) (a : xA) (x1 : Int32) (x2 : Int32) (x3 : Int32) (x4 : Int32) (s0 : Int32) (s1 : Int32) : Option (Int32 × xG × xA) := (if s1 = s0 then (if x4 = (-1) then f_X12_constrain_107 g a x1 x2 x3 x4 0 else f_X12_constrain_107 g a x1 x2 x3 x4 1) else f_X12_constrain_130 g a x1 x2 x3 x4 0)
def f_X12_constrain_78 (g : xG) (a : xA) (x1 : Int32) (x2 : Int32) (x3 : Int32) (x4 : Int32) (s0 : Int32) : Option (Int32 × xG × xA) := ck (inB x1 8) ((if (a 1 (x1 : Int32).toNatClampNeg) ≤ 1 then f_X12_constrain_93 g a x1 x2 x3 x4 0 s0 else f_X12_constrain_93 g a x1 x2 x3 x4 1 s0))
def f_X12_constrain_51 (g : xG) (a : xA) (x1 : Int32) (x2 : Int32) (x3 : Int32) (x4 : Int32) (s0 : Int32) : Option (Int32 × xG × xA) := (if ((upd g 8 s0) 8) ≤ 0 then (if x2 = (-1) then f_X12_constrain_130 (upd g 8 s0) a x1 x2 x3 x4 0 else (if x3 = (-1) then f_X12_constrain_78 (upd g 8 s0) a x1 x2 x3 x4 0 else f_X12_constrain_78 (upd g 8 s0) a x1 x2 x3 x4 1)) else some (0, (upd g 8 s0), a))
def f_X12_constrain_22 (g : xG) (a : xA) (x1 : Int32) (x2 : Int32) (x3 : Int32) (x4 : Int32) (s0 : Int32) : Option (Int32 × xG × xA) := Option.bind (f_X12_isRelation g a x1) (fun u7 => (if u7 = 0 then f_X12_constrain_51 g a x1 x2 x3 x4 1 else Option.bind (f_X12_isVariableOrNone g a x2) (fun u10 => (if u10 = 0 then f_X12_constrain_51 g a x1 x2 x3 x4 1 else (if s0 = 0 then f_X12_constrain_51 g a x1 x2 x3 x4 1 else f_X12_constrain_51 g a x1 x2 x3 x4 0)))))
def f_X12_constrain (g : xG) (a : xA) (v1 : Int32) (v2 : Int32) (v3 : Int32) (v4 : Int32) : Option (Int32 × xG × xA) := Option.bind (f_X12_isVariableOrNone g a v3) (fun u1 => (if u1 = 0 then f_X12_constrain_22 g a v1 v2 v3 v4 0 else Option.bind (f_X12_isVariableOrNone g a v4) (fun u4 => (if u4 = 0 then f_X12_constrain_22 g a v1 v2 v3 v4 0 else f_X12_constrain_22 g a v1 v2 v3 v4 1))))
set_option maxRecDepth 100000 in
set_option maxHeartbeats 40000000 in
theorem c_X12_constrain (l : Launch) (E : xE) (g : xG) (a : xA) (v1 : Int32) (v2 : Int32) (v3 : Int32) (v4 : Int32) {res : Int32 × xG × xA} (hf : f_X12_constrain g a v1 v2 v3 v4 = some res) : xM l E yX12_constrain cX12_constrain 7 (some .int) 2 43 [.ref (E.2.1 0), .int v1, .int v2, .int v3, .int v4] (wM E g a) (xQi E res.1 (wM E res.2.1 res.2.2)) := by
  unfold f_X12_constrain at hf
  refine xM_of (by decide) (Nat.le_of_ble_eq_true rfl) ?_
  intro p e s m below meth c A hx hb hr hml hts hown hlocks hA hD hP hK hN hS ls hl
  have hw : ∀ w ∈ BW, w.before _ s = true := fun w h => hts w (List.mem_cons_of_mem _ h)
  have C0 : xCtx E p m c cX12_constrain 7 s _ RX12 A yX12_constrain cX12_constrain 7 (some .int) := ⟨hx, hb, hml, hown, hts, hA, hK, hN⟩
  have hl : lv_has ls 7 [(0, .ref (E.2.1 0)), (1, .int v1), (2, .int v2), (3, .int v3), (4, .int v4)] := hl
  have B156 : ∀ (g : xG) (a : xA) (x1 : Int32) (x2 : Int32) (x3 : Int32) (x4 : Int32) (s0 : Int32) (H : Heap) (locs : List Loc) (ls : Array Slot), va_P E.1 vwCl (wM E g a) H → va_S A s.heap H locs → lv_has ls 7 [(0, .ref (E.2.1 0)), (1, .int x1), (2, .int x2), (3, .int x3), (4, .int x4)] → f_X12_constrain_156 g a x1 x2 x3 x4 s0 = some res → W p l e ({ frames := 2, cells := 0, slots := 0, locals := 43 }) s m ([.ref (E.2.1 0), .int v1, .int v2, .int v3, .int v4] : List Value).toArray below meth c H locs 0 0 (MQ below ((xQi E res.1 (wM E res.2.1 res.2.2)) A) ([.ref (E.2.1 0), .int v1, .int v2, .int v3, .int v4] : List Value).toArray s 0 0 A) (F0 m 156 ls [.int s0, .ref (E.2.1 0)]) := by
    intro g a x1 x2 x3 x4 s0 H locs ls hP hS hl hf
    unfold f_X12_constrain_156 at hf
    refine va_put (v := .int s0) (ty := .int) (C := RX12) (T := TX12) (N := 22) hx hb hw bfX120 tyX12 tyX12_ok nmX12 hown hK hP (wM_D hD) hS 0 (gm_0 E g a) rfl 21 (by decide) (hw _ bw771) (fun _ h9 => h9) rfl (by decide +kernel) rfl rfl (Nat.le_of_ble_eq_true rfl) dX12_constrain_156 (fun H locs hP _ hS => ?_)
    have hP := xP_eq (sm_g8 E g a s0) hP
    refine lv_aload_n hx hb dX12_constrain_159 rfl (lv_at hl 0 rfl) ?_
    refine va_get (C := RX12) (T := TX12) (N := 22) hx hb hw bfX120 hown hK hP 0 (gm_0 E (upd g 8 s0) a) rfl 21 (by decide) (hw _ bw771) (fun _ h9 => h9) rfl dX12_constrain_160 ?_
    refine lv_if_le (tgt := 168) hx hb dX12_constrain_163 (by decide) (fun c26 => ?_) (fun c26 => ?_)
    · replace hf := (if_pos c26).symm.trans hf
      refine lv_aload_n hx hb dX12_constrain_168 rfl (lv_at hl 0 rfl) ?_
      refine va_get (C := RX12) (T := TX12) (N := 22) hx hb hw bfX120 hown hK hP 0 (gm_0 E (upd g 8 s0) a) rfl 16 (by decide) (hw _ bw765) (fun _ h9 => h9) rfl dX12_constrain_169 ?_
      refine lv_aload_n hx hb dX12_constrain_172 rfl (lv_at hl 0 rfl) ?_
      refine va_get (C := RX12) (T := TX12) (N := 22) hx hb hw bfX120 hown hK hP 0 (gm_0 E (upd g 8 s0) a) rfl 15 (by decide) (hw _ bw784) (fun _ h9 => h9) rfl dX12_constrain_173 ?_
      refine lv_iload_n hx hb dX12_constrain_176 rfl (lv_at hl 1 rfl) ?_
      obtain ⟨k27, hf⟩ := ck_some hf
      refine va_iast hx hb hK hP (wM_D hD) hS 9 0 (gm_9 E (upd g 8 s0) a) rfl (inB_in k27) dX12_constrain_177 (fun H locs hP _ hS => ?_)
      have hP := xP_eq (sm_a9 E (upd g 8 s0) a (upd (a 9) (((upd g 8 s0) 7) : Int32).toNatClampNeg x1)) hP
      refine lv_aload_n hx hb dX12_constrain_178 rfl (lv_at hl 0 rfl) ?_
      refine va_get (C := RX12) (T := TX12) (N := 22) hx hb hw bfX120 hown hK hP 0 (gm_0 E (upd g 8 s0) (upA a 9 (upd (a 9) (((upd g 8 s0) 7) : Int32).toNatClampNeg x1))) rfl 17 (by decide) (hw _ bw766) (fun _ h9 => h9) rfl dX12_constrain_179 ?_
      refine lv_iconst (v := 3) hx hb dX12_constrain_182 (by decide) ?_
      refine lv_aload_n hx hb dX12_constrain_183 rfl (lv_at hl 0 rfl) ?_
      refine va_get (C := RX12) (T := TX12) (N := 22) hx hb hw bfX120 hown hK hP 0 (gm_0 E (upd g 8 s0) (upA a 9 (upd (a 9) (((upd g 8 s0) 7) : Int32).toNatClampNeg x1))) rfl 15 (by decide) (hw _ bw784) (fun _ h9 => h9) rfl dX12_constrain_184 ?_
      refine lv_imul hx hb dX12_constrain_187 ?_
      refine lv_iload_n hx hb dX12_constrain_188 rfl (lv_at hl 2 rfl) ?_
      obtain ⟨k28, hf⟩ := ck_some hf
      refine va_iast hx hb hK hP (wM_D hD) hS 10 0 (gm_10 E (upd g 8 s0) (upA a 9 (upd (a 9) (((upd g 8 s0) 7) : Int32).toNatClampNeg x1))) rfl (inB_in k28) dX12_constrain_189 (fun H locs hP _ hS => ?_)
      have hP := xP_eq (sm_a10 E (upd g 8 s0) (upA a 9 (upd (a 9) (((upd g 8 s0) 7) : Int32).toNatClampNeg x1)) (upd ((upA a 9 (upd (a 9) (((upd g 8 s0) 7) : Int32).toNatClampNeg x1)) 10) ((3 * ((upd g 8 s0) 7)) : Int32).toNatClampNeg x2)) hP
      refine lv_aload_n hx hb dX12_constrain_190 rfl (lv_at hl 0 rfl) ?_
      refine va_get (C := RX12) (T := TX12) (N := 22) hx hb hw bfX120 hown hK hP 0 (gm_0 E (upd g 8 s0) (upA (upA a 9 (upd (a 9) (((upd g 8 s0) 7) : Int32).toNatClampNeg x1)) 10 (upd ((upA a 9 (upd (a 9) (((upd g 8 s0) 7) : Int32).toNatClampNeg x1)) 10) ((3 * ((upd g 8 s0) 7)) : Int32).toNatClampNeg x2))) rfl 17 (by decide) (hw _ bw766) (fun _ h9 => h9) rfl dX12_constrain_191 ?_
      refine lv_iconst (v := 3) hx hb dX12_constrain_194 (by decide) ?_
      refine lv_aload_n hx hb dX12_constrain_195 rfl (lv_at hl 0 rfl) ?_
      refine va_get (C := RX12) (T := TX12) (N := 22) hx hb hw bfX120 hown hK hP 0 (gm_0 E (upd g 8 s0) (upA (upA a 9 (upd (a 9) (((upd g 8 s0) 7) : Int32).toNatClampNeg x1)) 10 (upd ((upA a 9 (upd (a 9) (((upd g 8 s0) 7) : Int32).toNatClampNeg x1)) 10) ((3 * ((upd g 8 s0) 7)) : Int32).toNatClampNeg x2))) rfl 15 (by decide) (hw _ bw784) (fun _ h9 => h9) rfl dX12_constrain_196 ?_
      refine lv_imul hx hb dX12_constrain_199 ?_
      refine lv_iconst (v := 1) hx hb dX12_constrain_200 (by decide) ?_
      refine lv_iadd hx hb dX12_constrain_201 ?_
      refine lv_iload_n hx hb dX12_constrain_202 rfl (lv_at hl 3 rfl) ?_
      obtain ⟨k29, hf⟩ := ck_some hf
      refine va_iast hx hb hK hP (wM_D hD) hS 10 0 (gm_10 E (upd g 8 s0) (upA (upA a 9 (upd (a 9) (((upd g 8 s0) 7) : Int32).toNatClampNeg x1)) 10 (upd ((upA a 9 (upd (a 9) (((upd g 8 s0) 7) : Int32).toNatClampNeg x1)) 10) ((3 * ((upd g 8 s0) 7)) : Int32).toNatClampNeg x2))) rfl (inB_in k29) dX12_constrain_203 (fun H locs hP _ hS => ?_)
      have hP := xP_eq (sm_a10 E (upd g 8 s0) (upA (upA a 9 (upd (a 9) (((upd g 8 s0) 7) : Int32).toNatClampNeg x1)) 10 (upd ((upA a 9 (upd (a 9) (((upd g 8 s0) 7) : Int32).toNatClampNeg x1)) 10) ((3 * ((upd g 8 s0) 7)) : Int32).toNatClampNeg x2)) (upd ((upA (upA a 9 (upd (a 9) (((upd g 8 s0) 7) : Int32).toNatClampNeg x1)) 10 (upd ((upA a 9 (upd (a 9) (((upd g 8 s0) 7) : Int32).toNatClampNeg x1)) 10) ((3 * ((upd g 8 s0) 7)) : Int32).toNatClampNeg x2)) 10) (((3 * ((upd g 8 s0) 7)) + 1) : Int32).toNatClampNeg x3)) hP
      refine lv_aload_n hx hb dX12_constrain_204 rfl (lv_at hl 0 rfl) ?_
      refine va_get (C := RX12) (T := TX12) (N := 22) hx hb hw bfX120 hown hK hP 0 (gm_0 E (upd g 8 s0) (upA (upA (upA a 9 (upd (a 9) (((upd g 8 s0) 7) : Int32).toNatClampNeg x1)) 10 (upd ((upA a 9 (upd (a 9) (((upd g 8 s0) 7) : Int32).toNatClampNeg x1)) 10) ((3 * ((upd g 8 s0) 7)) : Int32).toNatClampNeg x2)) 10 (upd ((upA (upA a 9 (upd (a 9) (((upd g 8 s0) 7) : Int32).toNatClampNeg x1)) 10 (upd ((upA a 9 (upd (a 9) (((upd g 8 s0) 7) : Int32).toNatClampNeg x1)) 10) ((3 * ((upd g 8 s0) 7)) : Int32).toNatClampNeg x2)) 10) (((3 * ((upd g 8 s0) 7)) + 1) : Int32).toNatClampNeg x3))) rfl 17 (by decide) (hw _ bw766) (fun _ h9 => h9) rfl dX12_constrain_205 ?_
      refine lv_iconst (v := 3) hx hb dX12_constrain_208 (by decide) ?_
      refine lv_aload_n hx hb dX12_constrain_209 rfl (lv_at hl 0 rfl) ?_
      refine va_get (C := RX12) (T := TX12) (N := 22) hx hb hw bfX120 hown hK hP 0 (gm_0 E (upd g 8 s0) (upA (upA (upA a 9 (upd (a 9) (((upd g 8 s0) 7) : Int32).toNatClampNeg x1)) 10 (upd ((upA a 9 (upd (a 9) (((upd g 8 s0) 7) : Int32).toNatClampNeg x1)) 10) ((3 * ((upd g 8 s0) 7)) : Int32).toNatClampNeg x2)) 10 (upd ((upA (upA a 9 (upd (a 9) (((upd g 8 s0) 7) : Int32).toNatClampNeg x1)) 10 (upd ((upA a 9 (upd (a 9) (((upd g 8 s0) 7) : Int32).toNatClampNeg x1)) 10) ((3 * ((upd g 8 s0) 7)) : Int32).toNatClampNeg x2)) 10) (((3 * ((upd g 8 s0) 7)) + 1) : Int32).toNatClampNeg x3))) rfl 15 (by decide) (hw _ bw784) (fun _ h9 => h9) rfl dX12_constrain_210 ?_
      refine lv_imul hx hb dX12_constrain_213 ?_
      refine lv_iconst (v := 2) hx hb dX12_constrain_214 (by decide) ?_
      refine lv_iadd hx hb dX12_constrain_215 ?_
      refine lv_iload hx hb dX12_constrain_216 (lv_at hl 4 rfl) ?_
      obtain ⟨k30, hf⟩ := ck_some hf
      refine va_iast hx hb hK hP (wM_D hD) hS 10 0 (gm_10 E (upd g 8 s0) (upA (upA (upA a 9 (upd (a 9) (((upd g 8 s0) 7) : Int32).toNatClampNeg x1)) 10 (upd ((upA a 9 (upd (a 9) (((upd g 8 s0) 7) : Int32).toNatClampNeg x1)) 10) ((3 * ((upd g 8 s0) 7)) : Int32).toNatClampNeg x2)) 10 (upd ((upA (upA a 9 (upd (a 9) (((upd g 8 s0) 7) : Int32).toNatClampNeg x1)) 10 (upd ((upA a 9 (upd (a 9) (((upd g 8 s0) 7) : Int32).toNatClampNeg x1)) 10) ((3 * ((upd g 8 s0) 7)) : Int32).toNatClampNeg x2)) 10) (((3 * ((upd g 8 s0) 7)) + 1) : Int32).toNatClampNeg x3))) rfl (inB_in k30) dX12_constrain_218 (fun H locs hP _ hS => ?_)
      have hP := xP_eq (sm_a10 E (upd g 8 s0) (upA (upA (upA a 9 (upd (a 9) (((upd g 8 s0) 7) : Int32).toNatClampNeg x1)) 10 (upd ((upA a 9 (upd (a 9) (((upd g 8 s0) 7) : Int32).toNatClampNeg x1)) 10) ((3 * ((upd g 8 s0) 7)) : Int32).toNatClampNeg x2)) 10 (upd ((upA (upA a 9 (upd (a 9) (((upd g 8 s0) 7) : Int32).toNatClampNeg x1)) 10 (upd ((upA a 9 (upd (a 9) (((upd g 8 s0) 7) : Int32).toNatClampNeg x1)) 10) ((3 * ((upd g 8 s0) 7)) : Int32).toNatClampNeg x2)) 10) (((3 * ((upd g 8 s0) 7)) + 1) : Int32).toNatClampNeg x3)) (upd ((upA (upA (upA a 9 (upd (a 9) (((upd g 8 s0) 7) : Int32).toNatClampNeg x1)) 10 (upd ((upA a 9 (upd (a 9) (((upd g 8 s0) 7) : Int32).toNatClampNeg x1)) 10) ((3 * ((upd g 8 s0) 7)) : Int32).toNatClampNeg x2)) 10 (upd ((upA (upA a 9 (upd (a 9) (((upd g 8 s0) 7) : Int32).toNatClampNeg x1)) 10 (upd ((upA a 9 (upd (a 9) (((upd g 8 s0) 7) : Int32).toNatClampNeg x1)) 10) ((3 * ((upd g 8 s0) 7)) : Int32).toNatClampNeg x2)) 10) (((3 * ((upd g 8 s0) 7)) + 1) : Int32).toNatClampNeg x3)) 10) (((3 * ((upd g 8 s0) 7)) + 2) : Int32).toNatClampNeg x4)) hP
      refine lv_aload_n hx hb dX12_constrain_219 rfl (lv_at hl 0 rfl) ?_
      refine lv_dup hx hb dX12_constrain_220 rfl ?_
      refine va_get (C := RX12) (T := TX12) (N := 22) hx hb hw bfX120 hown hK hP 0 (gm_0 E (upd g 8 s0) (upA (upA (upA (upA a 9 (upd (a 9) (((upd g 8 s0) 7) : Int32).toNatClampNeg x1)) 10 (upd ((upA a 9 (upd (a 9) (((upd g 8 s0) 7) : Int32).toNatClampNeg x1)) 10) ((3 * ((upd g 8 s0) 7)) : Int32).toNatClampNeg x2)) 10 (upd ((upA (upA a 9 (upd (a 9) (((upd g 8 s0) 7) : Int32).toNatClampNeg x1)) 10 (upd ((upA a 9 (upd (a 9) (((upd g 8 s0) 7) : Int32).toNatClampNeg x1)) 10) ((3 * ((upd g 8 s0) 7)) : Int32).toNatClampNeg x2)) 10) (((3 * ((upd g 8 s0) 7)) + 1) : Int32).toNatClampNeg x3)) 10 (upd ((upA (upA (upA a 9 (upd (a 9) (((upd g 8 s0) 7) : Int32).toNatClampNeg x1)) 10 (upd ((upA a 9 (upd (a 9) (((upd g 8 s0) 7) : Int32).toNatClampNeg x1)) 10) ((3 * ((upd g 8 s0) 7)) : Int32).toNatClampNeg x2)) 10 (upd ((upA (upA a 9 (upd (a 9) (((upd g 8 s0) 7) : Int32).toNatClampNeg x1)) 10 (upd ((upA a 9 (upd (a 9) (((upd g 8 s0) 7) : Int32).toNatClampNeg x1)) 10) ((3 * ((upd g 8 s0) 7)) : Int32).toNatClampNeg x2)) 10) (((3 * ((upd g 8 s0) 7)) + 1) : Int32).toNatClampNeg x3)) 10) (((3 * ((upd g 8 s0) 7)) + 2) : Int32).toNatClampNeg x4))) rfl 15 (by decide) (hw _ bw784) (fun _ h9 => h9) rfl dX12_constrain_221 ?_
      refine lv_iconst (v := 1) hx hb dX12_constrain_224 (by decide) ?_
      refine lv_iadd hx hb dX12_constrain_225 ?_
      refine va_put (v := .int (((upd g 8 s0) 7) + 1)) (ty := .int) (C := RX12) (T := TX12) (N := 22) hx hb hw bfX120 tyX12 tyX12_ok nmX12 hown hK hP (wM_D hD) hS 0 (gm_0 E (upd g 8 s0) (upA (upA (upA (upA a 9 (upd (a 9) (((upd g 8 s0) 7) : Int32).toNatClampNeg x1)) 10 (upd ((upA a 9 (upd (a 9) (((upd g 8 s0) 7) : Int32).toNatClampNeg x1)) 10) ((3 * ((upd g 8 s0) 7)) : Int32).toNatClampNeg x2)) 10 (upd ((upA (upA a 9 (upd (a 9) (((upd g 8 s0) 7) : Int32).toNatClampNeg x1)) 10 (upd ((upA a 9 (upd (a 9) (((upd g 8 s0) 7) : Int32).toNatClampNeg x1)) 10) ((3 * ((upd g 8 s0) 7)) : Int32).toNatClampNeg x2)) 10) (((3 * ((upd g 8 s0) 7)) + 1) : Int32).toNatClampNeg x3)) 10 (upd ((upA (upA (upA a 9 (upd (a 9) (((upd g 8 s0) 7) : Int32).toNatClampNeg x1)) 10 (upd ((upA a 9 (upd (a 9) (((upd g 8 s0) 7) : Int32).toNatClampNeg x1)) 10) ((3 * ((upd g 8 s0) 7)) : Int32).toNatClampNeg x2)) 10 (upd ((upA (upA a 9 (upd (a 9) (((upd g 8 s0) 7) : Int32).toNatClampNeg x1)) 10 (upd ((upA a 9 (upd (a 9) (((upd g 8 s0) 7) : Int32).toNatClampNeg x1)) 10) ((3 * ((upd g 8 s0) 7)) : Int32).toNatClampNeg x2)) 10) (((3 * ((upd g 8 s0) 7)) + 1) : Int32).toNatClampNeg x3)) 10) (((3 * ((upd g 8 s0) 7)) + 2) : Int32).toNatClampNeg x4))) rfl 15 (by decide) (hw _ bw784) (fun _ h9 => h9) rfl (by decide +kernel) rfl rfl (Nat.le_of_ble_eq_true rfl) dX12_constrain_226 (fun H locs hP _ hS => ?_)
      have hP := xP_eq (sm_g7 E (upd g 8 s0) (upA (upA (upA (upA a 9 (upd (a 9) (((upd g 8 s0) 7) : Int32).toNatClampNeg x1)) 10 (upd ((upA a 9 (upd (a 9) (((upd g 8 s0) 7) : Int32).toNatClampNeg x1)) 10) ((3 * ((upd g 8 s0) 7)) : Int32).toNatClampNeg x2)) 10 (upd ((upA (upA a 9 (upd (a 9) (((upd g 8 s0) 7) : Int32).toNatClampNeg x1)) 10 (upd ((upA a 9 (upd (a 9) (((upd g 8 s0) 7) : Int32).toNatClampNeg x1)) 10) ((3 * ((upd g 8 s0) 7)) : Int32).toNatClampNeg x2)) 10) (((3 * ((upd g 8 s0) 7)) + 1) : Int32).toNatClampNeg x3)) 10 (upd ((upA (upA (upA a 9 (upd (a 9) (((upd g 8 s0) 7) : Int32).toNatClampNeg x1)) 10 (upd ((upA a 9 (upd (a 9) (((upd g 8 s0) 7) : Int32).toNatClampNeg x1)) 10) ((3 * ((upd g 8 s0) 7)) : Int32).toNatClampNeg x2)) 10 (upd ((upA (upA a 9 (upd (a 9) (((upd g 8 s0) 7) : Int32).toNatClampNeg x1)) 10 (upd ((upA a 9 (upd (a 9) (((upd g 8 s0) 7) : Int32).toNatClampNeg x1)) 10) ((3 * ((upd g 8 s0) 7)) : Int32).toNatClampNeg x2)) 10) (((3 * ((upd g 8 s0) 7)) + 1) : Int32).toNatClampNeg x3)) 10) (((3 * ((upd g 8 s0) 7)) + 2) : Int32).toNatClampNeg x4)) (((upd g 8 s0) 7) + 1)) hP
      refine lv_aload_n hx hb dX12_constrain_229 rfl (lv_at hl 0 rfl) ?_
      refine va_get (C := RX12) (T := TX12) (N := 22) hx hb hw bfX120 hown hK hP 0 (gm_0 E (upd (upd g 8 s0) 7 (((upd g 8 s0) 7) + 1)) (upA (upA (upA (upA a 9 (upd (a 9) (((upd g 8 s0) 7) : Int32).toNatClampNeg x1)) 10 (upd ((upA a 9 (upd (a 9) (((upd g 8 s0) 7) : Int32).toNatClampNeg x1)) 10) ((3 * ((upd g 8 s0) 7)) : Int32).toNatClampNeg x2)) 10 (upd ((upA (upA a 9 (upd (a 9) (((upd g 8 s0) 7) : Int32).toNatClampNeg x1)) 10 (upd ((upA a 9 (upd (a 9) (((upd g 8 s0) 7) : Int32).toNatClampNeg x1)) 10) ((3 * ((upd g 8 s0) 7)) : Int32).toNatClampNeg x2)) 10) (((3 * ((upd g 8 s0) 7)) + 1) : Int32).toNatClampNeg x3)) 10 (upd ((upA (upA (upA a 9 (upd (a 9) (((upd g 8 s0) 7) : Int32).toNatClampNeg x1)) 10 (upd ((upA a 9 (upd (a 9) (((upd g 8 s0) 7) : Int32).toNatClampNeg x1)) 10) ((3 * ((upd g 8 s0) 7)) : Int32).toNatClampNeg x2)) 10 (upd ((upA (upA a 9 (upd (a 9) (((upd g 8 s0) 7) : Int32).toNatClampNeg x1)) 10 (upd ((upA a 9 (upd (a 9) (((upd g 8 s0) 7) : Int32).toNatClampNeg x1)) 10) ((3 * ((upd g 8 s0) 7)) : Int32).toNatClampNeg x2)) 10) (((3 * ((upd g 8 s0) 7)) + 1) : Int32).toNatClampNeg x3)) 10) (((3 * ((upd g 8 s0) 7)) + 2) : Int32).toNatClampNeg x4))) rfl 15 (by decide) (hw _ bw784) (fun _ h9 => h9) rfl dX12_constrain_230 ?_
      exact xi_retS (fr := (fun r => r.1)) (fw := (fun r => wM E r.2.1 r.2.2)) hx hb hr hlocks (Option.some.inj hf) hP hS dX12_constrain_233
    · replace hf := (if_neg c26).symm.trans hf
      refine lv_iconst (v := 0) hx hb dX12_constrain_166 (by decide) ?_
      exact xi_retS (fr := (fun r => r.1)) (fw := (fun r => wM E r.2.1 r.2.2)) hx hb hr hlocks (Option.some.inj hf) hP hS dX12_constrain_167
  have B130 : ∀ (g : xG) (a : xA) (x1 : Int32) (x2 : Int32) (x3 : Int32) (x4 : Int32) (s0 : Int32) (H : Heap) (locs : List Loc) (ls : Array Slot), va_P E.1 vwCl (wM E g a) H → va_S A s.heap H locs → lv_has ls 7 [(0, .ref (E.2.1 0)), (1, .int x1), (2, .int x2), (3, .int x3), (4, .int x4)] → f_X12_constrain_130 g a x1 x2 x3 x4 s0 = some res → W p l e ({ frames := 2, cells := 0, slots := 0, locals := 43 }) s m ([.ref (E.2.1 0), .int v1, .int v2, .int v3, .int v4] : List Value).toArray below meth c H locs 0 0 (MQ below ((xQi E res.1 (wM E res.2.1 res.2.2)) A) ([.ref (E.2.1 0), .int v1, .int v2, .int v3, .int v4] : List Value).toArray s 0 0 A) (F0 m 130 ls [.int s0]) := by
    intro g a x1 x2 x3 x4 s0 H locs ls hP hS hl hf
    unfold f_X12_constrain_130 at hf
    refine lv_istore (lv' := [(6, .int s0), (0, .ref (E.2.1 0)), (1, .int x1), (2, .int x2), (3, .int x3), (4, .int x4)]) hx hb dX12_constrain_130 hl (by decide) rfl (fun ls hl => ?_)
    refine lv_aload_n hx hb dX12_constrain_132 rfl (lv_at hl 1 rfl) ?_
    refine lv_iload hx hb dX12_constrain_133 (lv_at hl 0 rfl) ?_
    refine lv_if_ne (tgt := 142) hx hb dX12_constrain_135 (by decide) (fun c24 => ?_) (fun c24 => ?_)
    · replace hf := (if_neg c24).symm.trans hf
      refine lv_aload_n hx hb dX12_constrain_142 rfl (lv_at hl 1 rfl) ?_
      refine va_get (C := RX12) (T := TX12) (N := 22) hx hb hw bfX120 hown hK hP 0 (gm_0 E g a) rfl 15 (by decide) (hw _ bw784) (fun _ h9 => h9) rfl dX12_constrain_143 ?_
      refine lv_bipush (v := 16) hx hb dX12_constrain_146 (by decide) ?_
      refine lv_icmp_ne (tgt := 155) hx hb dX12_constrain_148 (by decide) (fun c25 => ?_) (fun c25 => ?_)
      · replace hf := (if_neg c25).symm.trans hf
        refine lv_iconst (v := 0) hx hb dX12_constrain_155 (by decide) ?_
        exact B156 g a x1 x2 x3 x4 0 _ _ _ hP hS (lv_sub hl [1, 2, 3, 4, 5] rfl) hf
      · replace hf := (if_pos c25).symm.trans hf
        refine lv_iconst (v := 3) hx hb dX12_constrain_151 (by decide) ?_
        refine lv_goto (tgt := 156) hx hb dX12_constrain_152 (by decide) ?_
        exact B156 g a x1 x2 x3 x4 3 _ _ _ hP hS (lv_sub hl [1, 2, 3, 4, 5] rfl) hf
    · replace hf := (if_pos c24).symm.trans hf
      refine lv_iconst (v := 2) hx hb dX12_constrain_138 (by decide) ?_
      refine lv_goto (tgt := 156) hx hb dX12_constrain_139 (by decide) ?_
      exact B156 g a x1 x2 x3 x4 2 _ _ _ hP hS (lv_sub hl [1, 2, 3, 4, 5] rfl) hf
  have B122 : ∀ (g : xG) (a : xA) (x1 : Int32) (x2 : Int32) (x3 : Int32) (x4 : Int32) (s0 : Int32) (s1 : Int32) (H : Heap) (locs : List Loc) (ls : Array Slot), va_P E.1 vwCl (wM E g a) H → va_S A s.heap H locs → lv_has ls 7 [(0, .ref (E.2.1 0)), (1, .int x1), (2, .int x2), (3, .int x3), (4, .int x4)] → f_X12_constrain_122 g a x1 x2 x3 x4 s0 s1 = some res → W p l e ({ frames := 2, cells := 0, slots := 0, locals := 43 }) s m ([.ref (E.2.1 0), .int v1, .int v2, .int v3, .int v4] : List Value).toArray below meth c H locs 0 0 (MQ below ((xQi E res.1 (wM E res.2.1 res.2.2)) A) ([.ref (E.2.1 0), .int v1, .int v2, .int v3, .int v4] : List Value).toArray s 0 0 A) (F0 m 122 ls [.int s0, .int s1]) := by
    intro g a x1 x2 x3 x4 s0 s1 H locs ls hP hS hl hf
    unfold f_X12_constrain_122 at hf
    refine lv_icmp_ne (tgt := 129) hx hb dX12_constrain_122 (by decide) (fun c23 => ?_) (fun c23 => ?_)
    · replace hf := (if_neg c23).symm.trans hf
      refine lv_iconst (v := 0) hx hb dX12_constrain_129 (by decide) ?_
      exact B130 g a x1 x2 x3 x4 0 _ _ _ hP hS (lv_sub hl [0, 1, 2, 3, 4] rfl) hf
    · replace hf := (if_pos c23).symm.trans hf
      refine lv_iconst (v := 1) hx hb dX12_constrain_125 (by decide) ?_
      refine lv_goto (tgt := 130) hx hb dX12_constrain_126 (by decide) ?_
      exact B130 g a x1 x2 x3 x4 1 _ _ _ hP hS (lv_sub hl [0, 1, 2, 3, 4] rfl) hf
  have B107 : ∀ (g : xG) (a : xA) (x1 : Int32) (x2 : Int32) (x3 : Int32) (x4 : Int32) (s0 : Int32) (H : Heap) (locs : List Loc) (ls : Array Slot), va_P E.1 vwCl (wM E g a) H → va_S A s.heap H locs → lv_has ls 7 [(0, .ref (E.2.1 0)), (1, .int x1), (2, .int x2), (3, .int x3), (4, .int x4)] → f_X12_constrain_107 g a x1 x2 x3 x4 s0 = some res → W p l e ({ frames := 2, cells := 0, slots := 0, locals := 43 }) s m ([.ref (E.2.1 0), .int v1, .int v2, .int v3, .int v4] : List Value).toArray below meth c H locs 0 0 (MQ below ((xQi E res.1 (wM E res.2.1 res.2.2)) A) ([.ref (E.2.1 0), .int v1, .int v2, .int v3, .int v4] : List Value).toArray s 0 0 A) (F0 m 107 ls [.int s0]) := by
    intro g a x1 x2 x3 x4 s0 H locs ls hP hS hl hf
    unfold f_X12_constrain_107 at hf
    refine lv_aload_n hx hb dX12_constrain_107 rfl (lv_at hl 0 rfl) ?_
    refine va_get (C := RX12) (T := TX12) (N := 22) hx hb hw bfX120 hown hK hP 0 (gm_0 E g a) rfl 2 (by decide) (hw _ bw756) (fun _ h9 => h9) rfl dX12_constrain_108 ?_
    refine lv_iload_n hx hb dX12_constrain_111 rfl (lv_at hl 1 rfl) ?_
    obtain ⟨k21, hf⟩ := ck_some hf
    refine va_iald hx hb hK hP 1 0 (gm_1 E g a) rfl (inB_in k21) dX12_constrain_112 ?_
    refine lv_iconst (v := 2) hx hb dX12_constrain_113 (by decide) ?_
    refine lv_icmp_le (tgt := 121) hx hb dX12_constrain_114 (by decide) (fun c22 => ?_) (fun c22 => ?_)
    · replace hf := (if_pos c22).symm.trans hf
      refine lv_iconst (v := 0) hx hb dX12_constrain_121 (by decide) ?_
      exact B122 g a x1 x2 x3 x4 0 s0 _ _ _ hP hS (lv_sub hl [0, 1, 2, 3, 4] rfl) hf
    · replace hf := (if_neg c22).symm.trans hf
      refine lv_iconst (v := 1) hx hb dX12_constrain_117 (by decide) ?_
      refine lv_goto (tgt := 122) hx hb dX12_constrain_118 (by decide) ?_
      exact B122 g a x1 x2 x3 x4 1 s0 _ _ _ hP hS (lv_sub hl [0, 1, 2, 3, 4] rfl) hf
  have B93 : ∀ (g : xG) (a : xA) (x1 : Int32) (x2 : Int32) (x3 : Int32) (x4 : Int32) (s0 : Int32) (s1 : Int32) (H : Heap) (locs : List Loc) (ls : Array Slot), va_P E.1 vwCl (wM E g a) H → va_S A s.heap H locs → lv_has ls 7 [(0, .ref (E.2.1 0)), (1, .int x1), (2, .int x2), (3, .int x3), (4, .int x4)] → f_X12_constrain_93 g a x1 x2 x3 x4 s0 s1 = some res → W p l e ({ frames := 2, cells := 0, slots := 0, locals := 43 }) s m ([.ref (E.2.1 0), .int v1, .int v2, .int v3, .int v4] : List Value).toArray below meth c H locs 0 0 (MQ below ((xQi E res.1 (wM E res.2.1 res.2.2)) A) ([.ref (E.2.1 0), .int v1, .int v2, .int v3, .int v4] : List Value).toArray s 0 0 A) (F0 m 93 ls [.int s0, .int s1]) := by
    intro g a x1 x2 x3 x4 s0 s1 H locs ls hP hS hl hf
    unfold f_X12_constrain_93 at hf
    refine lv_icmp_ne (tgt := 129) hx hb dX12_constrain_93 (by decide) (fun c19 => ?_) (fun c19 => ?_)
    · replace hf := (if_neg c19).symm.trans hf
      refine lv_iconst (v := 0) hx hb dX12_constrain_129 (by decide) ?_
      exact B130 g a x1 x2 x3 x4 0 _ _ _ hP hS (lv_sub hl [0, 1, 2, 3, 4] rfl) hf
    · replace hf := (if_pos c19).symm.trans hf
      refine lv_iload hx hb dX12_constrain_96 (lv_at hl 4 rfl) ?_
      refine lv_iconst (v := (-1)) hx hb dX12_constrain_98 (by decide) ?_
      refine lv_icmp_eq (tgt := 106) hx hb dX12_constrain_99 (by decide) (fun c20 => ?_) (fun c20 => ?_)
      · replace hf := (if_pos c20).symm.trans hf
        refine lv_iconst (v := 0) hx hb dX12_constrain_106 (by decide) ?_
        exact B107 g a x1 x2 x3 x4 0 _ _ _ hP hS (lv_sub hl [0, 1, 2, 3, 4] rfl) hf
      · replace hf := (if_neg c20).symm.trans hf
        refine lv_iconst (v := 1) hx hb dX12_constrain_102 (by decide) ?_
        refine lv_goto (tgt := 107) hx hb dX12_constrain_103 (by decide) ?_
        exact B107 g a x1 x2 x3 x4 1 _ _ _ hP hS (lv_sub hl [0, 1, 2, 3, 4] rfl) hf
  have B78 : ∀ (g : xG) (a : xA) (x1 : Int32) (x2 : Int32) (x3 : Int32) (x4 : Int32) (s0 : Int32) (H : Heap) (locs : List Loc) (ls : Array Slot), va_P E.1 vwCl (wM E g a) H → va_S A s.heap H locs → lv_has ls 7 [(0, .ref (E.2.1 0)), (1, .int x1), (2, .int x2), (3, .int x3), (4, .int x4)] → f_X12_constrain_78 g a x1 x2 x3 x4 s0 = some res → W p l e ({ frames := 2, cells := 0, slots := 0, locals := 43 }) s m ([.ref (E.2.1 0), .int v1, .int v2, .int v3, .int v4] : List Value).toArray below meth c H locs 0 0 (MQ below ((xQi E res.1 (wM E res.2.1 res.2.2)) A) ([.ref (E.2.1 0), .int v1, .int v2, .int v3, .int v4] : List Value).toArray s 0 0 A) (F0 m 78 ls [.int s0]) := by
    intro g a x1 x2 x3 x4 s0 H locs ls hP hS hl hf
    unfold f_X12_constrain_78 at hf
    refine lv_aload_n hx hb dX12_constrain_78 rfl (lv_at hl 0 rfl) ?_
    refine va_get (C := RX12) (T := TX12) (N := 22) hx hb hw bfX120 hown hK hP 0 (gm_0 E g a) rfl 2 (by decide) (hw _ bw756) (fun _ h9 => h9) rfl dX12_constrain_79 ?_
    refine lv_iload_n hx hb dX12_constrain_82 rfl (lv_at hl 1 rfl) ?_
    obtain ⟨k17, hf⟩ := ck_some hf
    refine va_iald hx hb hK hP 1 0 (gm_1 E g a) rfl (inB_in k17) dX12_constrain_83 ?_
    refine lv_iconst (v := 1) hx hb dX12_constrain_84 (by decide) ?_
    refine lv_icmp_le (tgt := 92) hx hb dX12_constrain_85 (by decide) (fun c18 => ?_) (fun c18 => ?_)
    · replace hf := (if_pos c18).symm.trans hf
      refine lv_iconst (v := 0) hx hb dX12_constrain_92 (by decide) ?_
      exact B93 g a x1 x2 x3 x4 0 s0 _ _ _ hP hS (lv_sub hl [0, 1, 2, 3, 4] rfl) hf
    · replace hf := (if_neg c18).symm.trans hf
      refine lv_iconst (v := 1) hx hb dX12_constrain_88 (by decide) ?_
      refine lv_goto (tgt := 93) hx hb dX12_constrain_89 (by decide) ?_
      exact B93 g a x1 x2 x3 x4 1 s0 _ _ _ hP hS (lv_sub hl [0, 1, 2, 3, 4] rfl) hf
  have B51 : ∀ (g : xG) (a : xA) (x1 : Int32) (x2 : Int32) (x3 : Int32) (x4 : Int32) (s0 : Int32) (H : Heap) (locs : List Loc) (ls : Array Slot), va_P E.1 vwCl (wM E g a) H → va_S A s.heap H locs → lv_has ls 7 [(0, .ref (E.2.1 0)), (1, .int x1), (2, .int x2), (3, .int x3), (4, .int x4)] → f_X12_constrain_51 g a x1 x2 x3 x4 s0 = some res → W p l e ({ frames := 2, cells := 0, slots := 0, locals := 43 }) s m ([.ref (E.2.1 0), .int v1, .int v2, .int v3, .int v4] : List Value).toArray below meth c H locs 0 0 (MQ below ((xQi E res.1 (wM E res.2.1 res.2.2)) A) ([.ref (E.2.1 0), .int v1, .int v2, .int v3, .int v4] : List Value).toArray s 0 0 A) (F0 m 51 ls [.int s0, .ref (E.2.1 0)]) := by
    intro g a x1 x2 x3 x4 s0 H locs ls hP hS hl hf
    unfold f_X12_constrain_51 at hf
    refine va_put (v := .int s0) (ty := .int) (C := RX12) (T := TX12) (N := 22) hx hb hw bfX120 tyX12 tyX12_ok nmX12 hown hK hP (wM_D hD) hS 0 (gm_0 E g a) rfl 21 (by decide) (hw _ bw771) (fun _ h9 => h9) rfl (by decide +kernel) rfl rfl (Nat.le_of_ble_eq_true rfl) dX12_constrain_51 (fun H locs hP _ hS => ?_)
    have hP := xP_eq (sm_g8 E g a s0) hP
    refine lv_aload_n hx hb dX12_constrain_54 rfl (lv_at hl 0 rfl) ?_
    refine va_get (C := RX12) (T := TX12) (N := 22) hx hb hw bfX120 hown hK hP 0 (gm_0 E (upd g 8 s0) a) rfl 21 (by decide) (hw _ bw771) (fun _ h9 => h9) rfl dX12_constrain_55 ?_
    refine lv_if_le (tgt := 63) hx hb dX12_constrain_58 (by decide) (fun c14 => ?_) (fun c14 => ?_)
    · replace hf := (if_pos c14).symm.trans hf
      refine lv_iload_n hx hb dX12_constrain_63 rfl (lv_at hl 2 rfl) ?_
      refine lv_iconst (v := (-1)) hx hb dX12_constrain_64 (by decide) ?_
      refine lv_icmp_eq (tgt := 129) hx hb dX12_constrain_65 (by decide) (fun c15 => ?_) (fun c15 => ?_)
      · replace hf := (if_pos c15).symm.trans hf
        refine lv_iconst (v := 0) hx hb dX12_constrain_129 (by decide) ?_
        exact B130 (upd g 8 s0) a x1 x2 x3 x4 0 _ _ _ hP hS (lv_sub hl [0, 1, 2, 3, 4] rfl) hf
      · replace hf := (if_neg c15).symm.trans hf
        refine lv_iload_n hx hb dX12_constrain_68 rfl (lv_at hl 3 rfl) ?_
        refine lv_iconst (v := (-1)) hx hb dX12_constrain_69 (by decide) ?_
        refine lv_icmp_eq (tgt := 77) hx hb dX12_constrain_70 (by decide) (fun c16 => ?_) (fun c16 => ?_)
        · replace hf := (if_pos c16).symm.trans hf
          refine lv_iconst (v := 0) hx hb dX12_constrain_77 (by decide) ?_
          exact B78 (upd g 8 s0) a x1 x2 x3 x4 0 _ _ _ hP hS (lv_sub hl [0, 1, 2, 3, 4] rfl) hf
        · replace hf := (if_neg c16).symm.trans hf
          refine lv_iconst (v := 1) hx hb dX12_constrain_73 (by decide) ?_
          refine lv_goto (tgt := 78) hx hb dX12_constrain_74 (by decide) ?_
          exact B78 (upd g 8 s0) a x1 x2 x3 x4 1 _ _ _ hP hS (lv_sub hl [0, 1, 2, 3, 4] rfl) hf
    · replace hf := (if_neg c14).symm.trans hf
      refine lv_iconst (v := 0) hx hb dX12_constrain_61 (by decide) ?_
      exact xi_retS (fr := (fun r => r.1)) (fw := (fun r => wM E r.2.1 r.2.2)) hx hb hr hlocks (Option.some.inj hf) hP hS dX12_constrain_62
  have B22 : ∀ (g : xG) (a : xA) (x1 : Int32) (x2 : Int32) (x3 : Int32) (x4 : Int32) (s0 : Int32) (H : Heap) (locs : List Loc) (ls : Array Slot), va_P E.1 vwCl (wM E g a) H → va_S A s.heap H locs → lv_has ls 7 [(0, .ref (E.2.1 0)), (1, .int x1), (2, .int x2), (3, .int x3), (4, .int x4)] → f_X12_constrain_22 g a x1 x2 x3 x4 s0 = some res → W p l e ({ frames := 2, cells := 0, slots := 0, locals := 43 }) s m ([.ref (E.2.1 0), .int v1, .int v2, .int v3, .int v4] : List Value).toArray below meth c H locs 0 0 (MQ below ((xQi E res.1 (wM E res.2.1 res.2.2)) A) ([.ref (E.2.1 0), .int v1, .int v2, .int v3, .int v4] : List Value).toArray s 0 0 A) (F0 m 22 ls [.int s0]) := by
    intro g a x1 x2 x3 x4 s0 H locs ls hP hS hl hf
    unfold f_X12_constrain_22 at hf
    refine lv_istore (lv' := [(5, .int s0), (0, .ref (E.2.1 0)), (1, .int x1), (2, .int x2), (3, .int x3), (4, .int x4)]) hx hb dX12_constrain_22 hl (by decide) rfl (fun ls hl => ?_)
    refine lv_aload_n hx hb dX12_constrain_24 rfl (lv_at hl 1 rfl) ?_
    refine lv_aload_n hx hb dX12_constrain_25 rfl (lv_at hl 1 rfl) ?_
    refine lv_iload_n hx hb dX12_constrain_26 rfl (lv_at hl 2 rfl) ?_
    obtain ⟨u7, e8, hf⟩ := bd_some hf
    refine xci (xRunV (rest := [.ref (E.2.1 0)]) (As := [.int x1]) (C := RX12) (k := 1) C0 (c_X12_isRelation l E g a x1 e8) bw788 bw790 bw778 bw791 bw792 hd_X12_isRelation ⟨Nat.le_of_ble_eq_true rfl, Nat.le_of_ble_eq_true rfl⟩ hP (wM_D hD) hS (va_recv hK hP (ci := 12) rfl (gm_0 E g a)) rfl hl.1 rfl (Nat.le_of_ble_eq_true rfl) dX12_constrain_27 ⟨Nat.zero_le _, Nat.zero_le _⟩) hS (fun H locs hP hS => ?_)
    refine lv_if_eq (tgt := 46) hx hb dX12_constrain_30 (by decide) (fun c9 => ?_) (fun c9 => ?_)
    · replace hf := (if_pos c9).symm.trans hf
      refine lv_iconst (v := 1) hx hb dX12_constrain_46 (by decide) ?_
      refine lv_goto (tgt := 51) hx hb dX12_constrain_47 (by decide) ?_
      exact B51 g a x1 x2 x3 x4 1 _ _ _ hP hS (lv_sub hl [1, 2, 3, 4, 5] rfl) hf
    · replace hf := (if_neg c9).symm.trans hf
      refine lv_aload_n hx hb dX12_constrain_33 rfl (lv_at hl 1 rfl) ?_
      refine lv_iload_n hx hb dX12_constrain_34 rfl (lv_at hl 3 rfl) ?_
      obtain ⟨u10, e11, hf⟩ := bd_some hf
      refine xci (xRunV (rest := [.ref (E.2.1 0)]) (As := [.int x2]) (C := RX12) (k := 1) C0 (c_X12_isVariableOrNone l E g a x2 e11) bw953 bw955 bw778 bw956 bw957 hd_X12_isVariableOrNone ⟨Nat.le_of_ble_eq_true rfl, Nat.le_of_ble_eq_true rfl⟩ hP (wM_D hD) hS (va_recv hK hP (ci := 12) rfl (gm_0 E g a)) rfl hl.1 rfl (Nat.le_of_ble_eq_true rfl) dX12_constrain_35 ⟨Nat.zero_le _, Nat.zero_le _⟩) hS (fun H locs hP hS => ?_)
      refine lv_if_eq (tgt := 46) hx hb dX12_constrain_38 (by decide) (fun c12 => ?_) (fun c12 => ?_)
      · replace hf := (if_pos c12).symm.trans hf
        refine lv_iconst (v := 1) hx hb dX12_constrain_46 (by decide) ?_
        refine lv_goto (tgt := 51) hx hb dX12_constrain_47 (by decide) ?_
        exact B51 g a x1 x2 x3 x4 1 _ _ _ hP hS (lv_sub hl [1, 2, 3, 4, 5] rfl) hf
      · replace hf := (if_neg c12).symm.trans hf
        refine lv_iload hx hb dX12_constrain_41 (lv_at hl 0 rfl) ?_
        refine lv_if_ne (tgt := 50) hx hb dX12_constrain_43 (by decide) (fun c13 => ?_) (fun c13 => ?_)
        · replace hf := (if_neg c13).symm.trans hf
          refine lv_iconst (v := 0) hx hb dX12_constrain_50 (by decide) ?_
          exact B51 g a x1 x2 x3 x4 0 _ _ _ hP hS (lv_sub hl [1, 2, 3, 4, 5] rfl) hf
        · replace hf := (if_pos c13).symm.trans hf
          refine lv_iconst (v := 1) hx hb dX12_constrain_46 (by decide) ?_
          refine lv_goto (tgt := 51) hx hb dX12_constrain_47 (by decide) ?_
          exact B51 g a x1 x2 x3 x4 1 _ _ _ hP hS (lv_sub hl [1, 2, 3, 4, 5] rfl) hf
  refine lv_aload_n hx hb dX12_constrain_0 rfl (lv_at hl 0 rfl) ?_
  refine lv_iload_n hx hb dX12_constrain_1 rfl (lv_at hl 3 rfl) ?_
  obtain ⟨u1, e2, hf⟩ := bd_some hf
  refine xci (xRunV (rest := []) (As := [.int v3]) (C := RX12) (k := 1) C0 (c_X12_isVariableOrNone l E g a v3 e2) bw953 bw955 bw778 bw956 bw957 hd_X12_isVariableOrNone ⟨Nat.le_of_ble_eq_true rfl, Nat.le_of_ble_eq_true rfl⟩ hP (wM_D hD) hS (va_recv hK hP (ci := 12) rfl (gm_0 E g a)) rfl hl.1 rfl (Nat.le_of_ble_eq_true rfl) dX12_constrain_2 ⟨Nat.zero_le _, Nat.zero_le _⟩) hS (fun H locs hP hS => ?_)
  refine lv_if_eq (tgt := 21) hx hb dX12_constrain_5 (by decide) (fun c3 => ?_) (fun c3 => ?_)
  · replace hf := (if_pos c3).symm.trans hf
    refine lv_iconst (v := 0) hx hb dX12_constrain_21 (by decide) ?_
    exact B22 g a v1 v2 v3 v4 0 _ _ _ hP hS (lv_sub hl [0, 1, 2, 3, 4] rfl) hf
  · replace hf := (if_neg c3).symm.trans hf
    refine lv_aload_n hx hb dX12_constrain_8 rfl (lv_at hl 0 rfl) ?_
    refine lv_iload hx hb dX12_constrain_9 (lv_at hl 4 rfl) ?_
    obtain ⟨u4, e5, hf⟩ := bd_some hf
    refine xci (xRunV (rest := []) (As := [.int v4]) (C := RX12) (k := 1) C0 (c_X12_isVariableOrNone l E g a v4 e5) bw953 bw955 bw778 bw956 bw957 hd_X12_isVariableOrNone ⟨Nat.le_of_ble_eq_true rfl, Nat.le_of_ble_eq_true rfl⟩ hP (wM_D hD) hS (va_recv hK hP (ci := 12) rfl (gm_0 E g a)) rfl hl.1 rfl (Nat.le_of_ble_eq_true rfl) dX12_constrain_11 ⟨Nat.zero_le _, Nat.zero_le _⟩) hS (fun H locs hP hS => ?_)
    refine lv_if_eq (tgt := 21) hx hb dX12_constrain_14 (by decide) (fun c6 => ?_) (fun c6 => ?_)
    · replace hf := (if_pos c6).symm.trans hf
      refine lv_iconst (v := 0) hx hb dX12_constrain_21 (by decide) ?_
      exact B22 g a v1 v2 v3 v4 0 _ _ _ hP hS (lv_sub hl [0, 1, 2, 3, 4] rfl) hf
    · replace hf := (if_neg c6).symm.trans hf
      refine lv_iconst (v := 1) hx hb dX12_constrain_17 (by decide) ?_
      refine lv_goto (tgt := 22) hx hb dX12_constrain_18 (by decide) ?_
      exact B22 g a v1 v2 v3 v4 1 _ _ _ hP hS (lv_sub hl [0, 1, 2, 3, 4] rfl) hf
def f_X12_isSolution_34 (g : xG) (a : xA) (K4 : Int32 → Int32 → Int32 → Option (Int32)) : Nat → Int32 → Int32 → Int32 → Int32 → Option (Int32)
  | 0, _, _, _, _ => none
  | n + 1, x1, x3, x4, x5 => (if x5 < 0 then ck (inB x3 16) (ck (inB (a 9 (x3 : Int32).toNatClampNeg) 8) (K4 x1 (t_X12_isIn g a (a 2 ((a 9 (x3 : Int32).toNatClampNeg) : Int32).toNatClampNeg) x4) (x3 + 1))) else ck (inB ((3 * x3) + x5) 48) (Option.bind (f_X12_on g a x1 (a 10 (((3 * x3) + x5) : Int32).toNatClampNeg)) (fun u11 => f_X12_isSolution_34 g a K4 n x1 x3 ((x4 * (g 0)) + u11) (x5 + (-1)))))
theorem e_X12_isSolution_34 (g : xG) (a : xA) (K4 : Int32 → Int32 → Int32 → Option (Int32)) (n : Nat) (x1 : Int32) (x3 : Int32) (x4 : Int32) (x5 : Int32) : f_X12_isSolution_34 g a K4 (n + 1) x1 x3 x4 x5 = (if x5 < 0 then ck (inB x3 16) (ck (inB (a 9 (x3 : Int32).toNatClampNeg) 8) (K4 x1 (t_X12_isIn g a (a 2 ((a 9 (x3 : Int32).toNatClampNeg) : Int32).toNatClampNeg) x4) (x3 + 1))) else ck (inB ((3 * x3) + x5) 48) (Option.bind (f_X12_on g a x1 (a 10 (((3 * x3) + x5) : Int32).toNatClampNeg)) (fun u11 => f_X12_isSolution_34 g a K4 n x1 x3 ((x4 * (g 0)) + u11) (x5 + (-1))))) := rfl
def f_X12_isSolution_4 (g : xG) (a : xA) : Nat → Int32 → Int32 → Int32 → Option (Int32)
  | 0, _, _, _ => none
  | n + 1, x1, x2, x3 => (if (g 7) ≤ x3 then ck (boB x2) (some x2) else (if x2 = 0 then ck (boB x2) (some x2) else ck (inB x3 16) (ck (inB (a 9 (x3 : Int32).toNatClampNeg) 8) (f_X12_isSolution_34 g a (f_X12_isSolution_4 g a n) fu x1 x3 0 ((a 1 ((a 9 (x3 : Int32).toNatClampNeg) : Int32).toNatClampNeg) - 1)))))
theorem e_X12_isSolution_4 (g : xG) (a : xA) (n : Nat) (x1 : Int32) (x2 : Int32) (x3 : Int32) : f_X12_isSolution_4 g a (n + 1) x1 x2 x3 = (if (g 7) ≤ x3 then ck (boB x2) (some x2) else (if x2 = 0 then ck (boB x2) (some x2) else ck (inB x3 16) (ck (inB (a 9 (x3 : Int32).toNatClampNeg) 8) (f_X12_isSolution_34 g a (f_X12_isSolution_4 g a n) fu x1 x3 0 ((a 1 ((a 9 (x3 : Int32).toNatClampNeg) : Int32).toNatClampNeg) - 1))))) := rfl
def f_X12_isSolution (g : xG) (a : xA) (v1 : Int32) : Option (Int32) := f_X12_isSolution_4 g a fu v1 1 0
set_option maxRecDepth 100000 in
set_option maxHeartbeats 40000000 in
theorem c_X12_isSolution (l : Launch) (E : xE) (g : xG) (a : xA) (v1 : Int32) {res : Int32} (hf : f_X12_isSolution g a v1 = some res) : xM l E yX12_isSolution cX12_isSolution 6 (some .boolean) 2 45 [.ref (E.2.1 0), .int v1] (wM E g a) (xQi E res (wM E g a)) := by
  unfold f_X12_isSolution at hf
  refine xM_of (by decide) (Nat.le_of_ble_eq_true rfl) ?_
  intro p e s m below meth c A hx hb hr hml hts hown hlocks hA hD hP hK hN hS ls hl
  have hw : ∀ w ∈ BW, w.before _ s = true := fun w h => hts w (List.mem_cons_of_mem _ h)
  have C0 : xCtx E p m c cX12_isSolution 6 s _ RX12 A yX12_isSolution cX12_isSolution 6 (some .boolean) := ⟨hx, hb, hml, hown, hts, hA, hK, hN⟩
  have hl : lv_has ls 6 [(0, .ref (E.2.1 0)), (1, .int v1)] := hl
  have B34 : ∀ (K4 : Int32 → Int32 → Int32 → Option (Int32)) (hK4 : ∀ (x1 : Int32) (x2 : Int32) (x3 : Int32) (H : Heap) (locs : List Loc) (ls : Array Slot), va_P E.1 vwCl (wM E g a) H → va_S A s.heap H locs → lv_has ls 6 [(0, .ref (E.2.1 0)), (1, .int x1), (2, .int x2), (3, .int x3)] → K4 x1 x2 x3 = some res → W p l e ({ frames := 2, cells := 0, slots := 0, locals := 45 }) s m ([.ref (E.2.1 0), .int v1] : List Value).toArray below meth c H locs 0 0 (MQ below ((xQi E res (wM E g a)) A) ([.ref (E.2.1 0), .int v1] : List Value).toArray s 0 0 A) (F0 m 4 ls [])) (n : Nat) (x1 : Int32) (x3 : Int32) (x4 : Int32) (x5 : Int32) (H : Heap) (locs : List Loc) (ls : Array Slot), va_P E.1 vwCl (wM E g a) H → va_S A s.heap H locs → lv_has ls 6 [(0, .ref (E.2.1 0)), (1, .int x1), (3, .int x3), (4, .int x4), (5, .int x5)] → f_X12_isSolution_34 g a K4 n x1 x3 x4 x5 = some res → W p l e ({ frames := 2, cells := 0, slots := 0, locals := 45 }) s m ([.ref (E.2.1 0), .int v1] : List Value).toArray below meth c H locs 0 0 (MQ below ((xQi E res (wM E g a)) A) ([.ref (E.2.1 0), .int v1] : List Value).toArray s 0 0 A) (F0 m 34 ls []) := by
    intro K4 hK4 n
    induction n with
    | zero => intro x1 x3 x4 x5 H locs ls hP hS hl hf; exact absurd (show (none : Option (Int32)) = some res from hf) (by intro h; cases h)
    | succ n ih =>
      intro x1 x3 x4 x5 H locs ls hP hS hl hf
      replace hf := (e_X12_isSolution_34 g a K4 n x1 x3 x4 x5).symm.trans hf
      refine lv_iload hx hb dX12_isSolution_34 (lv_at hl 4 rfl) ?_
      refine lv_if_lt (tgt := 71) hx hb dX12_isSolution_36 (by decide) (fun c7 => ?_) (fun c7 => ?_)
      · replace hf := (if_pos c7).symm.trans hf
        refine lv_aload_n hx hb dX12_isSolution_71 rfl (lv_at hl 0 rfl) ?_
        refine va_get (C := RX12) (T := TX12) (N := 22) hx hb hw bfX120 hown hK hP 0 (gm_0 E g a) rfl 3 (by decide) (hw _ bw757) (fun _ h9 => h9) rfl dX12_isSolution_72 ?_
        refine lv_aload_n hx hb dX12_isSolution_75 rfl (lv_at hl 0 rfl) ?_
        refine va_get (C := RX12) (T := TX12) (N := 22) hx hb hw bfX120 hown hK hP 0 (gm_0 E g a) rfl 16 (by decide) (hw _ bw765) (fun _ h9 => h9) rfl dX12_isSolution_76 ?_
        refine lv_iload_n hx hb dX12_isSolution_79 rfl (lv_at hl 2 rfl) ?_
        obtain ⟨k8, hf⟩ := ck_some hf
        refine va_iald hx hb hK hP 9 0 (gm_9 E g a) rfl (inB_in k8) dX12_isSolution_80 ?_
        obtain ⟨k9, hf⟩ := ck_some hf
        refine va_iald hx hb hK hP 2 0 (gm_2 E g a) rfl (inB_in k9) dX12_isSolution_81 ?_
        refine lv_iload hx hb dX12_isSolution_82 (lv_at hl 3 rfl) ?_
        refine xci (xRunS (rest := []) (As := [.int (a 2 ((a 9 (x3 : Int32).toNatClampNeg) : Int32).toNatClampNeg), .int x4]) (k := 2) C0 (c_X12_isIn l E g a (a 2 ((a 9 (x3 : Int32).toNatClampNeg) : Int32).toNatClampNeg) x4) bw779 bw793 bw778 bw794 hd_X12_isIn ⟨Nat.le_of_ble_eq_true rfl, Nat.le_of_ble_eq_true rfl⟩ hP (wM_D hD) hS rfl hl.1 rfl (Nat.le_of_ble_eq_true rfl) dX12_isSolution_84 ⟨Nat.zero_le _, Nat.zero_le _⟩) hS (fun H locs hP hS => ?_)
        refine lv_istore_n (lv' := [(2, .int (t_X12_isIn g a (a 2 ((a 9 (x3 : Int32).toNatClampNeg) : Int32).toNatClampNeg) x4)), (0, .ref (E.2.1 0)), (1, .int x1), (3, .int x3), (4, .int x4), (5, .int x5)]) hx hb dX12_isSolution_87 rfl hl (by decide) rfl (fun ls hl => ?_)
        refine lv_iinc (v := (x3 + 1)) (lv' := [(3, .int (x3 + 1)), (2, .int (t_X12_isIn g a (a 2 ((a 9 (x3 : Int32).toNatClampNeg) : Int32).toNatClampNeg) x4)), (0, .ref (E.2.1 0)), (1, .int x1), (4, .int x4), (5, .int x5)]) hx hb dX12_isSolution_88 hl (k := 3) rfl rfl (by decide) rfl (fun ls hl => ?_)
        refine lv_goto (tgt := 4) hx hb dX12_isSolution_91 (by decide) ?_
        exact hK4 x1 (t_X12_isIn g a (a 2 ((a 9 (x3 : Int32).toNatClampNeg) : Int32).toNatClampNeg) x4) (x3 + 1) _ _ _ hP hS (lv_sub hl [2, 3, 1, 0] rfl) hf
      · replace hf := (if_neg c7).symm.trans hf
        refine lv_iload hx hb dX12_isSolution_39 (lv_at hl 3 rfl) ?_
        refine lv_aload_n hx hb dX12_isSolution_41 rfl (lv_at hl 0 rfl) ?_
        refine va_get (C := RX12) (T := TX12) (N := 22) hx hb hw bfX120 hown hK hP 0 (gm_0 E g a) rfl 0 (by decide) (hw _ bw755) (fun _ h9 => h9) rfl dX12_isSolution_42 ?_
        refine lv_imul hx hb dX12_isSolution_45 ?_
        refine lv_aload_n hx hb dX12_isSolution_46 rfl (lv_at hl 0 rfl) ?_
        refine lv_iload_n hx hb dX12_isSolution_47 rfl (lv_at hl 1 rfl) ?_
        refine lv_aload_n hx hb dX12_isSolution_48 rfl (lv_at hl 0 rfl) ?_
        refine va_get (C := RX12) (T := TX12) (N := 22) hx hb hw bfX120 hown hK hP 0 (gm_0 E g a) rfl 17 (by decide) (hw _ bw766) (fun _ h9 => h9) rfl dX12_isSolution_49 ?_
        refine lv_iconst (v := 3) hx hb dX12_isSolution_52 (by decide) ?_
        refine lv_iload_n hx hb dX12_isSolution_53 rfl (lv_at hl 2 rfl) ?_
        refine lv_imul hx hb dX12_isSolution_54 ?_
        refine lv_iload hx hb dX12_isSolution_55 (lv_at hl 4 rfl) ?_
        refine lv_iadd hx hb dX12_isSolution_57 ?_
        obtain ⟨k10, hf⟩ := ck_some hf
        refine va_iald hx hb hK hP 10 0 (gm_10 E g a) rfl (inB_in k10) dX12_isSolution_58 ?_
        obtain ⟨u11, e12, hf⟩ := bd_some hf
        refine xci (xRunV (rest := [.int (x4 * (g 0))]) (As := [.int x1, .int (a 10 (((3 * x3) + x5) : Int32).toNatClampNeg)]) (C := RX12) (k := 2) C0 (c_X12_on l E g a x1 (a 10 (((3 * x3) + x5) : Int32).toNatClampNeg) e12) bw774 bw823 bw778 bw824 bw825 hd_X12_on ⟨Nat.le_of_ble_eq_true rfl, Nat.le_of_ble_eq_true rfl⟩ hP (wM_D hD) hS (va_recv hK hP (ci := 12) rfl (gm_0 E g a)) rfl hl.1 rfl (Nat.le_of_ble_eq_true rfl) dX12_isSolution_59 ⟨Nat.zero_le _, Nat.zero_le _⟩) hS (fun H locs hP hS => ?_)
        refine lv_iadd hx hb dX12_isSolution_62 ?_
        refine lv_istore (lv' := [(4, .int ((x4 * (g 0)) + u11)), (0, .ref (E.2.1 0)), (1, .int x1), (3, .int x3), (5, .int x5)]) hx hb dX12_isSolution_63 hl (by decide) rfl (fun ls hl => ?_)
        refine lv_iinc (v := (x5 + (-1))) (lv' := [(5, .int (x5 + (-1))), (4, .int ((x4 * (g 0)) + u11)), (0, .ref (E.2.1 0)), (1, .int x1), (3, .int x3)]) hx hb dX12_isSolution_65 hl (k := 4) rfl rfl (by decide) rfl (fun ls hl => ?_)
        refine lv_goto (tgt := 34) hx hb dX12_isSolution_68 (by decide) ?_
        exact ih x1 x3 ((x4 * (g 0)) + u11) (x5 + (-1)) _ _ _ hP hS (lv_sub hl [2, 3, 4, 1, 0] rfl) hf
  have B4 : ∀ (n : Nat) (x1 : Int32) (x2 : Int32) (x3 : Int32) (H : Heap) (locs : List Loc) (ls : Array Slot), va_P E.1 vwCl (wM E g a) H → va_S A s.heap H locs → lv_has ls 6 [(0, .ref (E.2.1 0)), (1, .int x1), (2, .int x2), (3, .int x3)] → f_X12_isSolution_4 g a n x1 x2 x3 = some res → W p l e ({ frames := 2, cells := 0, slots := 0, locals := 45 }) s m ([.ref (E.2.1 0), .int v1] : List Value).toArray below meth c H locs 0 0 (MQ below ((xQi E res (wM E g a)) A) ([.ref (E.2.1 0), .int v1] : List Value).toArray s 0 0 A) (F0 m 4 ls []) := by
    intro n
    induction n with
    | zero => intro x1 x2 x3 H locs ls hP hS hl hf; exact absurd (show (none : Option (Int32)) = some res from hf) (by intro h; cases h)
    | succ n ih =>
      intro x1 x2 x3 H locs ls hP hS hl hf
      replace hf := (e_X12_isSolution_4 g a n x1 x2 x3).symm.trans hf
      refine lv_iload_n hx hb dX12_isSolution_4 rfl (lv_at hl 3 rfl) ?_
      refine lv_aload_n hx hb dX12_isSolution_5 rfl (lv_at hl 0 rfl) ?_
      refine va_get (C := RX12) (T := TX12) (N := 22) hx hb hw bfX120 hown hK hP 0 (gm_0 E g a) rfl 15 (by decide) (hw _ bw784) (fun _ h9 => h9) rfl dX12_isSolution_6 ?_
      refine lv_icmp_ge (tgt := 94) hx hb dX12_isSolution_9 (by decide) (fun c1 => ?_) (fun c1 => ?_)
      · replace hf := (if_pos c1).symm.trans hf
        refine lv_iload_n hx hb dX12_isSolution_94 rfl (lv_at hl 2 rfl) ?_
        obtain ⟨k2, hf⟩ := ck_some hf
        exact xz_retS (fr := (fun r => r)) (fw := (fun r => wM E g a)) hx hb hr hlocks (Option.some.inj hf) (boB_bo k2) hP hS dX12_isSolution_95
      · replace hf := (if_neg c1).symm.trans hf
        refine lv_iload_n hx hb dX12_isSolution_12 rfl (lv_at hl 2 rfl) ?_
        refine lv_if_eq (tgt := 94) hx hb dX12_isSolution_13 (by decide) (fun c3 => ?_) (fun c3 => ?_)
        · replace hf := (if_pos c3).symm.trans hf
          refine lv_iload_n hx hb dX12_isSolution_94 rfl (lv_at hl 2 rfl) ?_
          obtain ⟨k4, hf⟩ := ck_some hf
          exact xz_retS (fr := (fun r => r)) (fw := (fun r => wM E g a)) hx hb hr hlocks (Option.some.inj hf) (boB_bo k4) hP hS dX12_isSolution_95
        · replace hf := (if_neg c3).symm.trans hf
          refine lv_iconst (v := 0) hx hb dX12_isSolution_16 (by decide) ?_
          refine lv_istore (lv' := [(4, .int 0), (0, .ref (E.2.1 0)), (1, .int x1), (2, .int x2), (3, .int x3)]) hx hb dX12_isSolution_17 hl (by decide) rfl (fun ls hl => ?_)
          refine lv_aload_n hx hb dX12_isSolution_19 rfl (lv_at hl 1 rfl) ?_
          refine va_get (C := RX12) (T := TX12) (N := 22) hx hb hw bfX120 hown hK hP 0 (gm_0 E g a) rfl 2 (by decide) (hw _ bw756) (fun _ h9 => h9) rfl dX12_isSolution_20 ?_
          refine lv_aload_n hx hb dX12_isSolution_23 rfl (lv_at hl 1 rfl) ?_
          refine va_get (C := RX12) (T := TX12) (N := 22) hx hb hw bfX120 hown hK hP 0 (gm_0 E g a) rfl 16 (by decide) (hw _ bw765) (fun _ h9 => h9) rfl dX12_isSolution_24 ?_
          refine lv_iload_n hx hb dX12_isSolution_27 rfl (lv_at hl 4 rfl) ?_
          obtain ⟨k5, hf⟩ := ck_some hf
          refine va_iald hx hb hK hP 9 0 (gm_9 E g a) rfl (inB_in k5) dX12_isSolution_28 ?_
          obtain ⟨k6, hf⟩ := ck_some hf
          refine va_iald hx hb hK hP 1 0 (gm_1 E g a) rfl (inB_in k6) dX12_isSolution_29 ?_
          refine lv_iconst (v := 1) hx hb dX12_isSolution_30 (by decide) ?_
          refine lv_isub hx hb dX12_isSolution_31 ?_
          refine lv_istore (lv' := [(5, .int ((a 1 ((a 9 (x3 : Int32).toNatClampNeg) : Int32).toNatClampNeg) - 1)), (4, .int 0), (0, .ref (E.2.1 0)), (1, .int x1), (2, .int x2), (3, .int x3)]) hx hb dX12_isSolution_32 hl (by decide) rfl (fun ls hl => ?_)
          exact B34 (f_X12_isSolution_4 g a n) ih fu x1 x3 0 ((a 1 ((a 9 (x3 : Int32).toNatClampNeg) : Int32).toNatClampNeg) - 1) _ _ _ hP hS (lv_sub hl [2, 3, 5, 1, 0] rfl) hf
  refine lv_iconst (v := 1) hx hb dX12_isSolution_0 (by decide) ?_
  refine lv_istore_n (lv' := [(2, .int 1), (0, .ref (E.2.1 0)), (1, .int v1)]) hx hb dX12_isSolution_1 rfl hl (by decide) rfl (fun ls hl => ?_)
  refine lv_iconst (v := 0) hx hb dX12_isSolution_2 (by decide) ?_
  refine lv_istore_n (lv' := [(3, .int 0), (2, .int 1), (0, .ref (E.2.1 0)), (1, .int v1)]) hx hb dX12_isSolution_3 rfl hl (by decide) rfl (fun ls hl => ?_)
  exact B4 fu v1 1 0 _ _ _ hP hS (lv_sub hl [2, 3, 1, 0] rfl) hf
def f_X12_solutions_9 (a : xA) : Nat → xG → Int32 → Int32 → Option (Int32 × xG)
  | 0, _, _, _ => none
  | n + 1, g, x1, x2 => Option.bind (f_X12_power g a (g 6)) (fun u1 => (if u1 ≤ x2 then some (x1, g) else Option.bind (f_X12_isSolution g a x2) (fun u4 => (if u4 = 0 then f_X12_solutions_9 a n g (x1 + 0) (x2 + 1) else f_X12_solutions_9 a n g (x1 + 1) (x2 + 1)))))
theorem e_X12_solutions_9 (a : xA) (n : Nat) (g : xG) (x1 : Int32) (x2 : Int32) : f_X12_solutions_9 a (n + 1) g x1 x2 = Option.bind (f_X12_power g a (g 6)) (fun u1 => (if u1 ≤ x2 then some (x1, g) else Option.bind (f_X12_isSolution g a x2) (fun u4 => (if u4 = 0 then f_X12_solutions_9 a n g (x1 + 0) (x2 + 1) else f_X12_solutions_9 a n g (x1 + 1) (x2 + 1))))) := rfl
def f_X12_solutions (g : xG) (a : xA) : Option (Int32 × xG) := f_X12_solutions_9 a fu (upd g 8 0) 0 0
set_option maxRecDepth 100000 in
set_option maxHeartbeats 40000000 in
theorem c_X12_solutions (l : Launch) (E : xE) (g : xG) (a : xA) {res : Int32 × xG} (hf : f_X12_solutions g a = some res) : xM l E yX12_solutions cX12_solutions 3 (some .int) 3 70 [.ref (E.2.1 0)] (wM E g a) (xQi E res.1 (wM E res.2 a)) := by
  unfold f_X12_solutions at hf
  refine xM_of (by decide) (Nat.le_of_ble_eq_true rfl) ?_
  intro p e s m below meth c A hx hb hr hml hts hown hlocks hA hD hP hK hN hS ls hl
  have hw : ∀ w ∈ BW, w.before _ s = true := fun w h => hts w (List.mem_cons_of_mem _ h)
  have C0 : xCtx E p m c cX12_solutions 3 s _ RX12 A yX12_solutions cX12_solutions 3 (some .int) := ⟨hx, hb, hml, hown, hts, hA, hK, hN⟩
  have hl : lv_has ls 3 [(0, .ref (E.2.1 0))] := hl
  have B9 : ∀ (n : Nat) (g : xG) (x1 : Int32) (x2 : Int32) (H : Heap) (locs : List Loc) (ls : Array Slot), va_P E.1 vwCl (wM E g a) H → va_S A s.heap H locs → lv_has ls 3 [(0, .ref (E.2.1 0)), (1, .int x1), (2, .int x2)] → f_X12_solutions_9 a n g x1 x2 = some res → W p l e ({ frames := 3, cells := 0, slots := 0, locals := 70 }) s m ([.ref (E.2.1 0)] : List Value).toArray below meth c H locs 0 0 (MQ below ((xQi E res.1 (wM E res.2 a)) A) ([.ref (E.2.1 0)] : List Value).toArray s 0 0 A) (F0 m 9 ls []) := by
    intro n
    induction n with
    | zero => intro g x1 x2 H locs ls hP hS hl hf; exact absurd (show (none : Option (Int32 × xG)) = some res from hf) (by intro h; cases h)
    | succ n ih =>
      intro g x1 x2 H locs ls hP hS hl hf
      replace hf := (e_X12_solutions_9 a n g x1 x2).symm.trans hf
      refine lv_iload_n hx hb dX12_solutions_9 rfl (lv_at hl 2 rfl) ?_
      refine lv_aload_n hx hb dX12_solutions_10 rfl (lv_at hl 0 rfl) ?_
      refine lv_aload_n hx hb dX12_solutions_11 rfl (lv_at hl 0 rfl) ?_
      refine va_get (C := RX12) (T := TX12) (N := 22) hx hb hw bfX120 hown hK hP 0 (gm_0 E g a) rfl 14 (by decide) (hw _ bw764) (fun _ h9 => h9) rfl dX12_solutions_12 ?_
      obtain ⟨u1, e2, hf⟩ := bd_some hf
      refine xci (xRunV (rest := [.int x2]) (As := [.int (g 6)]) (C := RX12) (k := 1) C0 (c_X12_power l E g a (g 6) e2) bw773 bw775 bw778 bw776 bw777 hd_X12_power ⟨Nat.le_of_ble_eq_true rfl, Nat.le_of_ble_eq_true rfl⟩ hP (wM_D hD) hS (va_recv hK hP (ci := 12) rfl (gm_0 E g a)) rfl hl.1 rfl (Nat.le_of_ble_eq_true rfl) dX12_solutions_15 ⟨Nat.zero_le _, Nat.zero_le _⟩) hS (fun H locs hP hS => ?_)
      refine lv_icmp_ge (tgt := 43) hx hb dX12_solutions_18 (by decide) (fun c3 => ?_) (fun c3 => ?_)
      · replace hf := (if_pos c3).symm.trans hf
        refine lv_iload_n hx hb dX12_solutions_43 rfl (lv_at hl 1 rfl) ?_
        exact xi_retS (fr := (fun r => r.1)) (fw := (fun r => wM E r.2 a)) hx hb hr hlocks (Option.some.inj hf) hP hS dX12_solutions_44
      · replace hf := (if_neg c3).symm.trans hf
        refine lv_iload_n hx hb dX12_solutions_21 rfl (lv_at hl 1 rfl) ?_
        refine lv_aload_n hx hb dX12_solutions_22 rfl (lv_at hl 0 rfl) ?_
        refine lv_iload_n hx hb dX12_solutions_23 rfl (lv_at hl 2 rfl) ?_
        obtain ⟨u4, e5, hf⟩ := bd_some hf
        refine xci (xRunV (rest := [.int x1]) (As := [.int x2]) (C := RX12) (k := 1) C0 (c_X12_isSolution l E g a x2 e5) bw958 bw960 bw778 bw961 bw962 hd_X12_isSolution ⟨Nat.le_of_ble_eq_true rfl, Nat.le_of_ble_eq_true rfl⟩ hP (wM_D hD) hS (va_recv hK hP (ci := 12) rfl (gm_0 E g a)) rfl hl.1 rfl (Nat.le_of_ble_eq_true rfl) dX12_solutions_24 ⟨Nat.zero_le _, Nat.zero_le _⟩) hS (fun H locs hP hS => ?_)
        refine lv_if_eq (tgt := 34) hx hb dX12_solutions_27 (by decide) (fun c6 => ?_) (fun c6 => ?_)
        · replace hf := (if_pos c6).symm.trans hf
          refine lv_iconst (v := 0) hx hb dX12_solutions_34 (by decide) ?_
          refine lv_iadd hx hb dX12_solutions_35 ?_
          refine lv_istore_n (lv' := [(1, .int (x1 + 0)), (0, .ref (E.2.1 0)), (2, .int x2)]) hx hb dX12_solutions_36 rfl hl (by decide) rfl (fun ls hl => ?_)
          refine lv_iinc (v := (x2 + 1)) (lv' := [(2, .int (x2 + 1)), (1, .int (x1 + 0)), (0, .ref (E.2.1 0))]) hx hb dX12_solutions_37 hl (k := 2) rfl rfl (by decide) rfl (fun ls hl => ?_)
          refine lv_goto (tgt := 9) hx hb dX12_solutions_40 (by decide) ?_
          exact ih g (x1 + 0) (x2 + 1) _ _ _ hP hS (lv_sub hl [2, 1, 0] rfl) hf
        · replace hf := (if_neg c6).symm.trans hf
          refine lv_iconst (v := 1) hx hb dX12_solutions_30 (by decide) ?_
          refine lv_goto (tgt := 35) hx hb dX12_solutions_31 (by decide) ?_
          refine lv_iadd hx hb dX12_solutions_35 ?_
          refine lv_istore_n (lv' := [(1, .int (x1 + 1)), (0, .ref (E.2.1 0)), (2, .int x2)]) hx hb dX12_solutions_36 rfl hl (by decide) rfl (fun ls hl => ?_)
          refine lv_iinc (v := (x2 + 1)) (lv' := [(2, .int (x2 + 1)), (1, .int (x1 + 1)), (0, .ref (E.2.1 0))]) hx hb dX12_solutions_37 hl (k := 2) rfl rfl (by decide) rfl (fun ls hl => ?_)
          refine lv_goto (tgt := 9) hx hb dX12_solutions_40 (by decide) ?_
          exact ih g (x1 + 1) (x2 + 1) _ _ _ hP hS (lv_sub hl [2, 1, 0] rfl) hf
  refine lv_aload_n hx hb dX12_solutions_0 rfl (lv_at hl 0 rfl) ?_
  refine lv_iconst (v := 0) hx hb dX12_solutions_1 (by decide) ?_
  refine va_put (v := .int 0) (ty := .int) (C := RX12) (T := TX12) (N := 22) hx hb hw bfX120 tyX12 tyX12_ok nmX12 hown hK hP (wM_D hD) hS 0 (gm_0 E g a) rfl 21 (by decide) (hw _ bw771) (fun _ h9 => h9) rfl (by decide +kernel) rfl rfl (Nat.le_of_ble_eq_true rfl) dX12_solutions_2 (fun H locs hP _ hS => ?_)
  have hP := xP_eq (sm_g8 E g a 0) hP
  refine lv_iconst (v := 0) hx hb dX12_solutions_5 (by decide) ?_
  refine lv_istore_n (lv' := [(1, .int 0), (0, .ref (E.2.1 0))]) hx hb dX12_solutions_6 rfl hl (by decide) rfl (fun ls hl => ?_)
  refine lv_iconst (v := 0) hx hb dX12_solutions_7 (by decide) ?_
  refine lv_istore_n (lv' := [(2, .int 0), (1, .int 0), (0, .ref (E.2.1 0))]) hx hb dX12_solutions_8 rfl hl (by decide) rfl (fun ls hl => ?_)
  exact B9 fu (upd g 8 0) 0 0 _ _ _ hP hS (lv_sub hl [2, 1, 0] rfl) hf
def f_X12_solutionsAnew (g : xG) (a : xA) : Option (Int32 × xG) := Option.bind (f_X12_solutions g a) (fun u1 => some (u1.1, u1.2))
set_option maxRecDepth 100000 in
set_option maxHeartbeats 40000000 in
theorem c_X12_solutionsAnew (l : Launch) (E : xE) (g : xG) (a : xA) {res : Int32 × xG} (hf : f_X12_solutionsAnew g a = some res) : xM l E yX12_solutionsAnew cX12_solutionsAnew 1 (some .int) 4 92 [.ref (E.2.1 0)] (wM E g a) (xQi E res.1 (wM E res.2 a)) := by
  unfold f_X12_solutionsAnew at hf
  refine xM_of (by decide) (Nat.le_of_ble_eq_true rfl) ?_
  intro p e s m below meth c A hx hb hr hml hts hown hlocks hA hD hP hK hN hS ls hl
  have hw : ∀ w ∈ BW, w.before _ s = true := fun w h => hts w (List.mem_cons_of_mem _ h)
  have C0 : xCtx E p m c cX12_solutionsAnew 1 s _ RX12 A yX12_solutionsAnew cX12_solutionsAnew 1 (some .int) := ⟨hx, hb, hml, hown, hts, hA, hK, hN⟩
  have hl : lv_has ls 1 [(0, .ref (E.2.1 0))] := hl
  refine lv_aload_n hx hb dX12_solutionsAnew_0 rfl (lv_at hl 0 rfl) ?_
  obtain ⟨u1, e2, hf⟩ := bd_some hf
  refine xci (xRunV (rest := []) (As := []) (C := RX12) (k := 0) C0 (c_X12_solutions l E g a e2) bw959 bw963 bw778 bw964 bw965 hd_X12_solutions ⟨Nat.le_of_ble_eq_true rfl, Nat.le_of_ble_eq_true rfl⟩ hP (wM_D hD) hS (va_recv hK hP (ci := 12) rfl (gm_0 E g a)) rfl hl.1 rfl (Nat.le_of_ble_eq_true rfl) dX12_solutionsAnew_1 ⟨Nat.zero_le _, Nat.zero_le _⟩) hS (fun H locs hP hS => ?_)
  exact xi_retS (fr := (fun r => r.1)) (fw := (fun r => wM E r.2 a)) hx hb hr hlocks (Option.some.inj hf) hP hS dX12_solutionsAnew_4
def f_X12_solve_7 (a : xA) : Nat → xG → Int32 → Option (Int32 × xG)
  | 0, _, _ => none
  | n + 1, g, x1 => Option.bind (f_X12_power g a (g 6)) (fun u1 => (if u1 ≤ x1 then some ((-1), g) else Option.bind (f_X12_isSolution g a x1) (fun u4 => (if u4 = 0 then f_X12_solve_7 a n g (x1 + 1) else some (x1, g)))))
theorem e_X12_solve_7 (a : xA) (n : Nat) (g : xG) (x1 : Int32) : f_X12_solve_7 a (n + 1) g x1 = Option.bind (f_X12_power g a (g 6)) (fun u1 => (if u1 ≤ x1 then some ((-1), g) else Option.bind (f_X12_isSolution g a x1) (fun u4 => (if u4 = 0 then f_X12_solve_7 a n g (x1 + 1) else some (x1, g))))) := rfl
def f_X12_solve (g : xG) (a : xA) : Option (Int32 × xG) := f_X12_solve_7 a fu (upd g 8 0) 0
set_option maxRecDepth 100000 in
set_option maxHeartbeats 40000000 in
theorem c_X12_solve (l : Launch) (E : xE) (g : xG) (a : xA) {res : Int32 × xG} (hf : f_X12_solve g a = some res) : xM l E yX12_solve cX12_solve 2 (some .int) 3 70 [.ref (E.2.1 0)] (wM E g a) (xQi E res.1 (wM E res.2 a)) := by
  unfold f_X12_solve at hf
  refine xM_of (by decide) (Nat.le_of_ble_eq_true rfl) ?_
  intro p e s m below meth c A hx hb hr hml hts hown hlocks hA hD hP hK hN hS ls hl
  have hw : ∀ w ∈ BW, w.before _ s = true := fun w h => hts w (List.mem_cons_of_mem _ h)
  have C0 : xCtx E p m c cX12_solve 2 s _ RX12 A yX12_solve cX12_solve 2 (some .int) := ⟨hx, hb, hml, hown, hts, hA, hK, hN⟩
  have hl : lv_has ls 2 [(0, .ref (E.2.1 0))] := hl
  have B7 : ∀ (n : Nat) (g : xG) (x1 : Int32) (H : Heap) (locs : List Loc) (ls : Array Slot), va_P E.1 vwCl (wM E g a) H → va_S A s.heap H locs → lv_has ls 2 [(0, .ref (E.2.1 0)), (1, .int x1)] → f_X12_solve_7 a n g x1 = some res → W p l e ({ frames := 3, cells := 0, slots := 0, locals := 70 }) s m ([.ref (E.2.1 0)] : List Value).toArray below meth c H locs 0 0 (MQ below ((xQi E res.1 (wM E res.2 a)) A) ([.ref (E.2.1 0)] : List Value).toArray s 0 0 A) (F0 m 7 ls []) := by
    intro n
    induction n with
    | zero => intro g x1 H locs ls hP hS hl hf; exact absurd (show (none : Option (Int32 × xG)) = some res from hf) (by intro h; cases h)
    | succ n ih =>
      intro g x1 H locs ls hP hS hl hf
      replace hf := (e_X12_solve_7 a n g x1).symm.trans hf
      refine lv_iload_n hx hb dX12_solve_7 rfl (lv_at hl 1 rfl) ?_
      refine lv_aload_n hx hb dX12_solve_8 rfl (lv_at hl 0 rfl) ?_
      refine lv_aload_n hx hb dX12_solve_9 rfl (lv_at hl 0 rfl) ?_
      refine va_get (C := RX12) (T := TX12) (N := 22) hx hb hw bfX120 hown hK hP 0 (gm_0 E g a) rfl 14 (by decide) (hw _ bw764) (fun _ h9 => h9) rfl dX12_solve_10 ?_
      obtain ⟨u1, e2, hf⟩ := bd_some hf
      refine xci (xRunV (rest := [.int x1]) (As := [.int (g 6)]) (C := RX12) (k := 1) C0 (c_X12_power l E g a (g 6) e2) bw773 bw775 bw778 bw776 bw777 hd_X12_power ⟨Nat.le_of_ble_eq_true rfl, Nat.le_of_ble_eq_true rfl⟩ hP (wM_D hD) hS (va_recv hK hP (ci := 12) rfl (gm_0 E g a)) rfl hl.1 rfl (Nat.le_of_ble_eq_true rfl) dX12_solve_13 ⟨Nat.zero_le _, Nat.zero_le _⟩) hS (fun H locs hP hS => ?_)
      refine lv_icmp_ge (tgt := 35) hx hb dX12_solve_16 (by decide) (fun c3 => ?_) (fun c3 => ?_)
      · replace hf := (if_pos c3).symm.trans hf
        refine lv_iconst (v := (-1)) hx hb dX12_solve_35 (by decide) ?_
        exact xi_retS (fr := (fun r => r.1)) (fw := (fun r => wM E r.2 a)) hx hb hr hlocks (Option.some.inj hf) hP hS dX12_solve_36
      · replace hf := (if_neg c3).symm.trans hf
        refine lv_aload_n hx hb dX12_solve_19 rfl (lv_at hl 0 rfl) ?_
        refine lv_iload_n hx hb dX12_solve_20 rfl (lv_at hl 1 rfl) ?_
        obtain ⟨u4, e5, hf⟩ := bd_some hf
        refine xci (xRunV (rest := []) (As := [.int x1]) (C := RX12) (k := 1) C0 (c_X12_isSolution l E g a x1 e5) bw958 bw960 bw778 bw961 bw962 hd_X12_isSolution ⟨Nat.le_of_ble_eq_true rfl, Nat.le_of_ble_eq_true rfl⟩ hP (wM_D hD) hS (va_recv hK hP (ci := 12) rfl (gm_0 E g a)) rfl hl.1 rfl (Nat.le_of_ble_eq_true rfl) dX12_solve_21 ⟨Nat.zero_le _, Nat.zero_le _⟩) hS (fun H locs hP hS => ?_)
        refine lv_if_eq (tgt := 29) hx hb dX12_solve_24 (by decide) (fun c6 => ?_) (fun c6 => ?_)
        · replace hf := (if_pos c6).symm.trans hf
          refine lv_iinc (v := (x1 + 1)) (lv' := [(1, .int (x1 + 1)), (0, .ref (E.2.1 0))]) hx hb dX12_solve_29 hl (k := 1) rfl rfl (by decide) rfl (fun ls hl => ?_)
          refine lv_goto (tgt := 7) hx hb dX12_solve_32 (by decide) ?_
          exact ih g (x1 + 1) _ _ _ hP hS (lv_sub hl [1, 0] rfl) hf
        · replace hf := (if_neg c6).symm.trans hf
          refine lv_iload_n hx hb dX12_solve_27 rfl (lv_at hl 1 rfl) ?_
          exact xi_retS (fr := (fun r => r.1)) (fw := (fun r => wM E r.2 a)) hx hb hr hlocks (Option.some.inj hf) hP hS dX12_solve_28
  refine lv_aload_n hx hb dX12_solve_0 rfl (lv_at hl 0 rfl) ?_
  refine lv_iconst (v := 0) hx hb dX12_solve_1 (by decide) ?_
  refine va_put (v := .int 0) (ty := .int) (C := RX12) (T := TX12) (N := 22) hx hb hw bfX120 tyX12 tyX12_ok nmX12 hown hK hP (wM_D hD) hS 0 (gm_0 E g a) rfl 21 (by decide) (hw _ bw771) (fun _ h9 => h9) rfl (by decide +kernel) rfl rfl (Nat.le_of_ble_eq_true rfl) dX12_solve_2 (fun H locs hP _ hS => ?_)
  have hP := xP_eq (sm_g8 E g a 0) hP
  refine lv_iconst (v := 0) hx hb dX12_solve_5 (by decide) ?_
  refine lv_istore_n (lv' := [(1, .int 0), (0, .ref (E.2.1 0))]) hx hb dX12_solve_6 rfl hl (by decide) rfl (fun ls hl => ?_)
  exact B7 fu (upd g 8 0) 0 _ _ _ hP hS (lv_sub hl [1, 0] rfl) hf
def f_X12_canStand_73 (g : xG) (a : xA) (K22 : Int32 → Int32 → Int32 → Int32 → Int32 → Option (Int32)) (K36 : Int32 → Int32 → Int32 → Int32 → Int32 → Int32 → Option (Int32)) (x1 : Int32) (x2 : Int32) (x3 : Int32) (x4 : Int32) (x5 : Int32) (x6 : Int32) (s0 : Int32) : Option (Int32) := (if x4 = 0 then K36 x1 x2 x3 0 x5 (x6 + 1) else (if s0 = 0 then K36 x1 x2 x3 1 x5 (x6 + 1) else Option.bind (f_X12_on g a x2 x5) (fun u12 => Option.bind (f_X12_on g a x2 x6) (fun u14 => (if u12 = u14 then K36 x1 x2 x3 1 x5 (x6 + 1) else K36 x1 x2 x3 0 x5 (x6 + 1))))))
def f_X12_canStand_36 (g : xG) (a : xA) (K22 : Int32 → Int32 → Int32 → Int32 → Int32 → Option (Int32)) : Nat → Int32 → Int32 → Int32 → Int32 → Int32 → Int32 → Option (Int32)
  | 0, _, _, _, _, _, _ => none
  | n + 1, x1, x2, x3, x4, x5, x6 => (if x5 ≤ x6 then K22 x1 x2 x3 x4 (x5 + 1) else ck (inB ((3 * x1) + x5) 48) (ck (inB ((3 * x1) + x6) 48) ((if (a 10 (((3 * x1) + x5) : Int32).toNatClampNeg) = (a 10 (((3 * x1) + x6) : Int32).toNatClampNeg) then f_X12_canStand_73 g a K22 (f_X12_canStand_36 g a K22 n) x1 x2 x3 x4 x5 x6 1 else f_X12_canStand_73 g a K22 (f_X12_canStand_36 g a K22 n) x1 x2 x3 x4 x5 x6 0))))
theorem e_X12_canStand_36 (g : xG) (a : xA) (K22 : Int32 → Int32 → Int32 → Int32 → Int32 → Option (Int32)) (n : Nat) (x1 : Int32) (x2 : Int32) (x3 : Int32) (x4 : Int32) (x5 : Int32) (x6 : Int32) : f_X12_canStand_36 g a K22 (n + 1) x1 x2 x3 x4 x5 x6 = (if x5 ≤ x6 then K22 x1 x2 x3 x4 (x5 + 1) else ck (inB ((3 * x1) + x5) 48) (ck (inB ((3 * x1) + x6) 48) ((if (a 10 (((3 * x1) + x5) : Int32).toNatClampNeg) = (a 10 (((3 * x1) + x6) : Int32).toNatClampNeg) then f_X12_canStand_73 g a K22 (f_X12_canStand_36 g a K22 n) x1 x2 x3 x4 x5 x6 1 else f_X12_canStand_73 g a K22 (f_X12_canStand_36 g a K22 n) x1 x2 x3 x4 x5 x6 0)))) := rfl
def f_X12_canStand_22 (g : xG) (a : xA) : Nat → Int32 → Int32 → Int32 → Int32 → Int32 → Option (Int32)
  | 0, _, _, _, _, _ => none
  | n + 1, x1, x2, x3, x4, x5 => ck (inB x3 8) ((if (a 1 (x3 : Int32).toNatClampNeg) ≤ x5 then ck (boB x4) (some x4) else f_X12_canStand_36 g a (f_X12_canStand_22 g a n) fu x1 x2 x3 x4 x5 0))
theorem e_X12_canStand_22 (g : xG) (a : xA) (n : Nat) (x1 : Int32) (x2 : Int32) (x3 : Int32) (x4 : Int32) (x5 : Int32) : f_X12_canStand_22 g a (n + 1) x1 x2 x3 x4 x5 = ck (inB x3 8) ((if (a 1 (x3 : Int32).toNatClampNeg) ≤ x5 then ck (boB x4) (some x4) else f_X12_canStand_36 g a (f_X12_canStand_22 g a n) fu x1 x2 x3 x4 x5 0)) := rfl
def f_X12_canStand (g : xG) (a : xA) (v1 : Int32) (v2 : Int32) : Option (Int32) := ck (inB v1 16) (ck (inB (a 9 (v1 : Int32).toNatClampNeg) 8) (f_X12_canStand_22 g a fu v1 v2 (a 9 (v1 : Int32).toNatClampNeg) (t_X12_isIn g a (a 2 ((a 9 (v1 : Int32).toNatClampNeg) : Int32).toNatClampNeg) v2) 0))
set_option maxRecDepth 100000 in
set_option maxHeartbeats 40000000 in
theorem c_X12_canStand (l : Launch) (E : xE) (g : xG) (a : xA) (v1 : Int32) (v2 : Int32) {res : Int32} (hf : f_X12_canStand g a v1 v2 = some res) : xM l E yX12_canStand cX12_canStand 8 (some .boolean) 2 45 [.ref (E.2.1 0), .int v1, .int v2] (wM E g a) (xQi E res (wM E g a)) := by
  unfold f_X12_canStand at hf
  refine xM_of (by decide) (Nat.le_of_ble_eq_true rfl) ?_
  intro p e s m below meth c A hx hb hr hml hts hown hlocks hA hD hP hK hN hS ls hl
  have hw : ∀ w ∈ BW, w.before _ s = true := fun w h => hts w (List.mem_cons_of_mem _ h)
  have C0 : xCtx E p m c cX12_canStand 8 s _ RX12 A yX12_canStand cX12_canStand 8 (some .boolean) := ⟨hx, hb, hml, hown, hts, hA, hK, hN⟩
  have hl : lv_has ls 8 [(0, .ref (E.2.1 0)), (1, .int v1), (2, .int v2)] := hl
  have B73 : ∀ (K22 : Int32 → Int32 → Int32 → Int32 → Int32 → Option (Int32)) (hK22 : ∀ (x1 : Int32) (x2 : Int32) (x3 : Int32) (x4 : Int32) (x5 : Int32) (H : Heap) (locs : List Loc) (ls : Array Slot), va_P E.1 vwCl (wM E g a) H → va_S A s.heap H locs → lv_has ls 8 [(0, .ref (E.2.1 0)), (1, .int x1), (2, .int x2), (3, .int x3), (4, .int x4), (5, .int x5)] → K22 x1 x2 x3 x4 x5 = some res → W p l e ({ frames := 2, cells := 0, slots := 0, locals := 45 }) s m ([.ref (E.2.1 0), .int v1, .int v2] : List Value).toArray below meth c H locs 0 0 (MQ below ((xQi E res (wM E g a)) A) ([.ref (E.2.1 0), .int v1, .int v2] : List Value).toArray s 0 0 A) (F0 m 22 ls [])) (K36 : Int32 → Int32 → Int32 → Int32 → Int32 → Int32 → Option (Int32)) (hK36 : ∀ (x1 : Int32) (x2 : Int32) (x3 : Int32) (x4 : Int32) (x5 : Int32) (x6 : Int32) (H : Heap) (locs : List Loc) (ls : Array Slot), va_P E.1 vwCl (wM E g a) H → va_S A s.heap H locs → lv_has ls 8 [(0, .ref (E.2.1 0)), (1, .int x1), (2, .int x2), (3, .int x3), (4, .int x4), (5, .int x5), (6, .int x6)] → K36 x1 x2 x3 x4 x5 x6 = some res → W p l e ({ frames := 2, cells := 0, slots := 0, locals := 45 }) s m ([.ref (E.2.1 0), .int v1, .int v2] : List Value).toArray below meth c H locs 0 0 (MQ below ((xQi E res (wM E g a)) A) ([.ref (E.2.1 0), .int v1, .int v2] : List Value).toArray s 0 0 A) (F0 m 36 ls [])) (x1 : Int32) (x2 : Int32) (x3 : Int32) (x4 : Int32) (x5 : Int32) (x6 : Int32) (s0 : Int32) (H : Heap) (locs : List Loc) (ls : Array Slot), va_P E.1 vwCl (wM E g a) H → va_S A s.heap H locs → lv_has ls 8 [(0, .ref (E.2.1 0)), (1, .int x1), (2, .int x2), (3, .int x3), (4, .int x4), (5, .int x5), (6, .int x6)] → f_X12_canStand_73 g a K22 K36 x1 x2 x3 x4 x5 x6 s0 = some res → W p l e ({ frames := 2, cells := 0, slots := 0, locals := 45 }) s m ([.ref (E.2.1 0), .int v1, .int v2] : List Value).toArray below meth c H locs 0 0 (MQ below ((xQi E res (wM E g a)) A) ([.ref (E.2.1 0), .int v1, .int v2] : List Value).toArray s 0 0 A) (F0 m 73 ls [.int s0]) := by
    intro K22 hK22 K36 hK36 x1 x2 x3 x4 x5 x6 s0 H locs ls hP hS hl hf
    unfold f_X12_canStand_73 at hf
    refine lv_istore (lv' := [(7, .int s0), (0, .ref (E.2.1 0)), (1, .int x1), (2, .int x2), (3, .int x3), (4, .int x4), (5, .int x5), (6, .int x6)]) hx hb dX12_canStand_73 hl (by decide) rfl (fun ls hl => ?_)
    refine lv_iload hx hb dX12_canStand_75 (lv_at hl 5 rfl) ?_
    refine lv_if_eq (tgt := 106) hx hb dX12_canStand_77 (by decide) (fun c10 => ?_) (fun c10 => ?_)
    · replace hf := (if_pos c10).symm.trans hf
      refine lv_iconst (v := 0) hx hb dX12_canStand_106 (by decide) ?_
      refine lv_istore (lv' := [(4, .int 0), (7, .int s0), (0, .ref (E.2.1 0)), (1, .int x1), (2, .int x2), (3, .int x3), (5, .int x5), (6, .int x6)]) hx hb dX12_canStand_107 hl (by decide) rfl (fun ls hl => ?_)
      refine lv_iinc (v := (x6 + 1)) (lv' := [(6, .int (x6 + 1)), (4, .int 0), (7, .int s0), (0, .ref (E.2.1 0)), (1, .int x1), (2, .int x2), (3, .int x3), (5, .int x5)]) hx hb dX12_canStand_109 hl (k := 7) rfl rfl (by decide) rfl (fun ls hl => ?_)
      refine lv_goto (tgt := 36) hx hb dX12_canStand_112 (by decide) ?_
      exact hK36 x1 x2 x3 0 x5 (x6 + 1) _ _ _ hP hS (lv_sub hl [3, 4, 5, 6, 1, 7, 0] rfl) hf
    · replace hf := (if_neg c10).symm.trans hf
      refine lv_iload hx hb dX12_canStand_80 (lv_at hl 0 rfl) ?_
      refine lv_if_eq (tgt := 102) hx hb dX12_canStand_82 (by decide) (fun c11 => ?_) (fun c11 => ?_)
      · replace hf := (if_pos c11).symm.trans hf
        refine lv_iconst (v := 1) hx hb dX12_canStand_102 (by decide) ?_
        refine lv_goto (tgt := 107) hx hb dX12_canStand_103 (by decide) ?_
        refine lv_istore (lv' := [(4, .int 1), (7, .int s0), (0, .ref (E.2.1 0)), (1, .int x1), (2, .int x2), (3, .int x3), (5, .int x5), (6, .int x6)]) hx hb dX12_canStand_107 hl (by decide) rfl (fun ls hl => ?_)
        refine lv_iinc (v := (x6 + 1)) (lv' := [(6, .int (x6 + 1)), (4, .int 1), (7, .int s0), (0, .ref (E.2.1 0)), (1, .int x1), (2, .int x2), (3, .int x3), (5, .int x5)]) hx hb dX12_canStand_109 hl (k := 7) rfl rfl (by decide) rfl (fun ls hl => ?_)
        refine lv_goto (tgt := 36) hx hb dX12_canStand_112 (by decide) ?_
        exact hK36 x1 x2 x3 1 x5 (x6 + 1) _ _ _ hP hS (lv_sub hl [3, 4, 5, 6, 1, 7, 0] rfl) hf
      · replace hf := (if_neg c11).symm.trans hf
        refine lv_aload_n hx hb dX12_canStand_85 rfl (lv_at hl 1 rfl) ?_
        refine lv_iload_n hx hb dX12_canStand_86 rfl (lv_at hl 3 rfl) ?_
        refine lv_iload hx hb dX12_canStand_87 (lv_at hl 6 rfl) ?_
        obtain ⟨u12, e13, hf⟩ := bd_some hf
        refine xci (xRunV (rest := []) (As := [.int x2, .int x5]) (C := RX12) (k := 2) C0 (c_X12_on l E g a x2 x5 e13) bw774 bw823 bw778 bw824 bw825 hd_X12_on ⟨Nat.le_of_ble_eq_true rfl, Nat.le_of_ble_eq_true rfl⟩ hP (wM_D hD) hS (va_recv hK hP (ci := 12) rfl (gm_0 E g a)) rfl hl.1 rfl (Nat.le_of_ble_eq_true rfl) dX12_canStand_89 ⟨Nat.zero_le _, Nat.zero_le _⟩) hS (fun H locs hP hS => ?_)
        refine lv_aload_n hx hb dX12_canStand_92 rfl (lv_at hl 1 rfl) ?_
        refine lv_iload_n hx hb dX12_canStand_93 rfl (lv_at hl 3 rfl) ?_
        refine lv_iload hx hb dX12_canStand_94 (lv_at hl 7 rfl) ?_
        obtain ⟨u14, e15, hf⟩ := bd_some hf
        refine xci (xRunV (rest := [.int u12]) (As := [.int x2, .int x6]) (C := RX12) (k := 2) C0 (c_X12_on l E g a x2 x6 e15) bw774 bw823 bw778 bw824 bw825 hd_X12_on ⟨Nat.le_of_ble_eq_true rfl, Nat.le_of_ble_eq_true rfl⟩ hP (wM_D hD) hS (va_recv hK hP (ci := 12) rfl (gm_0 E g a)) rfl hl.1 rfl (Nat.le_of_ble_eq_true rfl) dX12_canStand_96 ⟨Nat.zero_le _, Nat.zero_le _⟩) hS (fun H locs hP hS => ?_)
        refine lv_icmp_ne (tgt := 106) hx hb dX12_canStand_99 (by decide) (fun c16 => ?_) (fun c16 => ?_)
        · replace hf := (if_neg c16).symm.trans hf
          refine lv_iconst (v := 0) hx hb dX12_canStand_106 (by decide) ?_
          refine lv_istore (lv' := [(4, .int 0), (7, .int s0), (0, .ref (E.2.1 0)), (1, .int x1), (2, .int x2), (3, .int x3), (5, .int x5), (6, .int x6)]) hx hb dX12_canStand_107 hl (by decide) rfl (fun ls hl => ?_)
          refine lv_iinc (v := (x6 + 1)) (lv' := [(6, .int (x6 + 1)), (4, .int 0), (7, .int s0), (0, .ref (E.2.1 0)), (1, .int x1), (2, .int x2), (3, .int x3), (5, .int x5)]) hx hb dX12_canStand_109 hl (k := 7) rfl rfl (by decide) rfl (fun ls hl => ?_)
          refine lv_goto (tgt := 36) hx hb dX12_canStand_112 (by decide) ?_
          exact hK36 x1 x2 x3 0 x5 (x6 + 1) _ _ _ hP hS (lv_sub hl [3, 4, 5, 6, 1, 7, 0] rfl) hf
        · replace hf := (if_pos c16).symm.trans hf
          refine lv_iconst (v := 1) hx hb dX12_canStand_102 (by decide) ?_
          refine lv_goto (tgt := 107) hx hb dX12_canStand_103 (by decide) ?_
          refine lv_istore (lv' := [(4, .int 1), (7, .int s0), (0, .ref (E.2.1 0)), (1, .int x1), (2, .int x2), (3, .int x3), (5, .int x5), (6, .int x6)]) hx hb dX12_canStand_107 hl (by decide) rfl (fun ls hl => ?_)
          refine lv_iinc (v := (x6 + 1)) (lv' := [(6, .int (x6 + 1)), (4, .int 1), (7, .int s0), (0, .ref (E.2.1 0)), (1, .int x1), (2, .int x2), (3, .int x3), (5, .int x5)]) hx hb dX12_canStand_109 hl (k := 7) rfl rfl (by decide) rfl (fun ls hl => ?_)
          refine lv_goto (tgt := 36) hx hb dX12_canStand_112 (by decide) ?_
          exact hK36 x1 x2 x3 1 x5 (x6 + 1) _ _ _ hP hS (lv_sub hl [3, 4, 5, 6, 1, 7, 0] rfl) hf
  have B36 : ∀ (K22 : Int32 → Int32 → Int32 → Int32 → Int32 → Option (Int32)) (hK22 : ∀ (x1 : Int32) (x2 : Int32) (x3 : Int32) (x4 : Int32) (x5 : Int32) (H : Heap) (locs : List Loc) (ls : Array Slot), va_P E.1 vwCl (wM E g a) H → va_S A s.heap H locs → lv_has ls 8 [(0, .ref (E.2.1 0)), (1, .int x1), (2, .int x2), (3, .int x3), (4, .int x4), (5, .int x5)] → K22 x1 x2 x3 x4 x5 = some res → W p l e ({ frames := 2, cells := 0, slots := 0, locals := 45 }) s m ([.ref (E.2.1 0), .int v1, .int v2] : List Value).toArray below meth c H locs 0 0 (MQ below ((xQi E res (wM E g a)) A) ([.ref (E.2.1 0), .int v1, .int v2] : List Value).toArray s 0 0 A) (F0 m 22 ls [])) (n : Nat) (x1 : Int32) (x2 : Int32) (x3 : Int32) (x4 : Int32) (x5 : Int32) (x6 : Int32) (H : Heap) (locs : List Loc) (ls : Array Slot), va_P E.1 vwCl (wM E g a) H → va_S A s.heap H locs → lv_has ls 8 [(0, .ref (E.2.1 0)), (1, .int x1), (2, .int x2), (3, .int x3), (4, .int x4), (5, .int x5), (6, .int x6)] → f_X12_canStand_36 g a K22 n x1 x2 x3 x4 x5 x6 = some res → W p l e ({ frames := 2, cells := 0, slots := 0, locals := 45 }) s m ([.ref (E.2.1 0), .int v1, .int v2] : List Value).toArray below meth c H locs 0 0 (MQ below ((xQi E res (wM E g a)) A) ([.ref (E.2.1 0), .int v1, .int v2] : List Value).toArray s 0 0 A) (F0 m 36 ls []) := by
    intro K22 hK22 n
    induction n with
    | zero => intro x1 x2 x3 x4 x5 x6 H locs ls hP hS hl hf; exact absurd (show (none : Option (Int32)) = some res from hf) (by intro h; cases h)
    | succ n ih =>
      intro x1 x2 x3 x4 x5 x6 H locs ls hP hS hl hf
      replace hf := (e_X12_canStand_36 g a K22 n x1 x2 x3 x4 x5 x6).symm.trans hf
      refine lv_iload hx hb dX12_canStand_36 (lv_at hl 6 rfl) ?_
      refine lv_iload hx hb dX12_canStand_38 (lv_at hl 5 rfl) ?_
      refine lv_icmp_ge (tgt := 115) hx hb dX12_canStand_40 (by decide) (fun c6 => ?_) (fun c6 => ?_)
      · replace hf := (if_pos c6).symm.trans hf
        refine lv_iinc (v := (x5 + 1)) (lv' := [(5, .int (x5 + 1)), (0, .ref (E.2.1 0)), (1, .int x1), (2, .int x2), (3, .int x3), (4, .int x4), (6, .int x6)]) hx hb dX12_canStand_115 hl (k := 5) rfl rfl (by decide) rfl (fun ls hl => ?_)
        refine lv_goto (tgt := 22) hx hb dX12_canStand_118 (by decide) ?_
        exact hK22 x1 x2 x3 x4 (x5 + 1) _ _ _ hP hS (lv_sub hl [1, 2, 3, 4, 5, 0] rfl) hf
      · replace hf := (if_neg c6).symm.trans hf
        refine lv_aload_n hx hb dX12_canStand_43 rfl (lv_at hl 0 rfl) ?_
        refine va_get (C := RX12) (T := TX12) (N := 22) hx hb hw bfX120 hown hK hP 0 (gm_0 E g a) rfl 17 (by decide) (hw _ bw766) (fun _ h9 => h9) rfl dX12_canStand_44 ?_
        refine lv_iconst (v := 3) hx hb dX12_canStand_47 (by decide) ?_
        refine lv_iload_n hx hb dX12_canStand_48 rfl (lv_at hl 1 rfl) ?_
        refine lv_imul hx hb dX12_canStand_49 ?_
        refine lv_iload hx hb dX12_canStand_50 (lv_at hl 5 rfl) ?_
        refine lv_iadd hx hb dX12_canStand_52 ?_
        obtain ⟨k7, hf⟩ := ck_some hf
        refine va_iald hx hb hK hP 10 0 (gm_10 E g a) rfl (inB_in k7) dX12_canStand_53 ?_
        refine lv_aload_n hx hb dX12_canStand_54 rfl (lv_at hl 0 rfl) ?_
        refine va_get (C := RX12) (T := TX12) (N := 22) hx hb hw bfX120 hown hK hP 0 (gm_0 E g a) rfl 17 (by decide) (hw _ bw766) (fun _ h9 => h9) rfl dX12_canStand_55 ?_
        refine lv_iconst (v := 3) hx hb dX12_canStand_58 (by decide) ?_
        refine lv_iload_n hx hb dX12_canStand_59 rfl (lv_at hl 1 rfl) ?_
        refine lv_imul hx hb dX12_canStand_60 ?_
        refine lv_iload hx hb dX12_canStand_61 (lv_at hl 6 rfl) ?_
        refine lv_iadd hx hb dX12_canStand_63 ?_
        obtain ⟨k8, hf⟩ := ck_some hf
        refine va_iald hx hb hK hP 10 0 (gm_10 E g a) rfl (inB_in k8) dX12_canStand_64 ?_
        refine lv_icmp_ne (tgt := 72) hx hb dX12_canStand_65 (by decide) (fun c9 => ?_) (fun c9 => ?_)
        · replace hf := (if_neg c9).symm.trans hf
          refine lv_iconst (v := 0) hx hb dX12_canStand_72 (by decide) ?_
          exact B73 K22 hK22 (f_X12_canStand_36 g a K22 n) ih x1 x2 x3 x4 x5 x6 0 _ _ _ hP hS (lv_sub hl [0, 1, 2, 3, 4, 5, 6] rfl) hf
        · replace hf := (if_pos c9).symm.trans hf
          refine lv_iconst (v := 1) hx hb dX12_canStand_68 (by decide) ?_
          refine lv_goto (tgt := 73) hx hb dX12_canStand_69 (by decide) ?_
          exact B73 K22 hK22 (f_X12_canStand_36 g a K22 n) ih x1 x2 x3 x4 x5 x6 1 _ _ _ hP hS (lv_sub hl [0, 1, 2, 3, 4, 5, 6] rfl) hf
  have B22 : ∀ (n : Nat) (x1 : Int32) (x2 : Int32) (x3 : Int32) (x4 : Int32) (x5 : Int32) (H : Heap) (locs : List Loc) (ls : Array Slot), va_P E.1 vwCl (wM E g a) H → va_S A s.heap H locs → lv_has ls 8 [(0, .ref (E.2.1 0)), (1, .int x1), (2, .int x2), (3, .int x3), (4, .int x4), (5, .int x5)] → f_X12_canStand_22 g a n x1 x2 x3 x4 x5 = some res → W p l e ({ frames := 2, cells := 0, slots := 0, locals := 45 }) s m ([.ref (E.2.1 0), .int v1, .int v2] : List Value).toArray below meth c H locs 0 0 (MQ below ((xQi E res (wM E g a)) A) ([.ref (E.2.1 0), .int v1, .int v2] : List Value).toArray s 0 0 A) (F0 m 22 ls []) := by
    intro n
    induction n with
    | zero => intro x1 x2 x3 x4 x5 H locs ls hP hS hl hf; exact absurd (show (none : Option (Int32)) = some res from hf) (by intro h; cases h)
    | succ n ih =>
      intro x1 x2 x3 x4 x5 H locs ls hP hS hl hf
      replace hf := (e_X12_canStand_22 g a n x1 x2 x3 x4 x5).symm.trans hf
      refine lv_iload hx hb dX12_canStand_22 (lv_at hl 5 rfl) ?_
      refine lv_aload_n hx hb dX12_canStand_24 rfl (lv_at hl 0 rfl) ?_
      refine va_get (C := RX12) (T := TX12) (N := 22) hx hb hw bfX120 hown hK hP 0 (gm_0 E g a) rfl 2 (by decide) (hw _ bw756) (fun _ h9 => h9) rfl dX12_canStand_25 ?_
      refine lv_iload_n hx hb dX12_canStand_28 rfl (lv_at hl 3 rfl) ?_
      obtain ⟨k3, hf⟩ := ck_some hf
      refine va_iald hx hb hK hP 1 0 (gm_1 E g a) rfl (inB_in k3) dX12_canStand_29 ?_
      refine lv_icmp_ge (tgt := 121) hx hb dX12_canStand_30 (by decide) (fun c4 => ?_) (fun c4 => ?_)
      · replace hf := (if_pos c4).symm.trans hf
        refine lv_iload hx hb dX12_canStand_121 (lv_at hl 4 rfl) ?_
        obtain ⟨k5, hf⟩ := ck_some hf
        exact xz_retS (fr := (fun r => r)) (fw := (fun r => wM E g a)) hx hb hr hlocks (Option.some.inj hf) (boB_bo k5) hP hS dX12_canStand_123
      · replace hf := (if_neg c4).symm.trans hf
        refine lv_iconst (v := 0) hx hb dX12_canStand_33 (by decide) ?_
        refine lv_istore (lv' := [(6, .int 0), (0, .ref (E.2.1 0)), (1, .int x1), (2, .int x2), (3, .int x3), (4, .int x4), (5, .int x5)]) hx hb dX12_canStand_34 hl (by decide) rfl (fun ls hl => ?_)
        exact B36 (f_X12_canStand_22 g a n) ih fu x1 x2 x3 x4 x5 0 _ _ _ hP hS (lv_sub hl [1, 2, 3, 4, 5, 6, 0] rfl) hf
  refine lv_aload_n hx hb dX12_canStand_0 rfl (lv_at hl 0 rfl) ?_
  refine va_get (C := RX12) (T := TX12) (N := 22) hx hb hw bfX120 hown hK hP 0 (gm_0 E g a) rfl 16 (by decide) (hw _ bw765) (fun _ h9 => h9) rfl dX12_canStand_1 ?_
  refine lv_iload_n hx hb dX12_canStand_4 rfl (lv_at hl 1 rfl) ?_
  obtain ⟨k1, hf⟩ := ck_some hf
  refine va_iald hx hb hK hP 9 0 (gm_9 E g a) rfl (inB_in k1) dX12_canStand_5 ?_
  refine lv_istore_n (lv' := [(3, .int (a 9 (v1 : Int32).toNatClampNeg)), (0, .ref (E.2.1 0)), (1, .int v1), (2, .int v2)]) hx hb dX12_canStand_6 rfl hl (by decide) rfl (fun ls hl => ?_)
  refine lv_aload_n hx hb dX12_canStand_7 rfl (lv_at hl 1 rfl) ?_
  refine va_get (C := RX12) (T := TX12) (N := 22) hx hb hw bfX120 hown hK hP 0 (gm_0 E g a) rfl 3 (by decide) (hw _ bw757) (fun _ h9 => h9) rfl dX12_canStand_8 ?_
  refine lv_iload_n hx hb dX12_canStand_11 rfl (lv_at hl 0 rfl) ?_
  obtain ⟨k2, hf⟩ := ck_some hf
  refine va_iald hx hb hK hP 2 0 (gm_2 E g a) rfl (inB_in k2) dX12_canStand_12 ?_
  refine lv_iload_n hx hb dX12_canStand_13 rfl (lv_at hl 3 rfl) ?_
  refine xci (xRunS (rest := []) (As := [.int (a 2 ((a 9 (v1 : Int32).toNatClampNeg) : Int32).toNatClampNeg), .int v2]) (k := 2) C0 (c_X12_isIn l E g a (a 2 ((a 9 (v1 : Int32).toNatClampNeg) : Int32).toNatClampNeg) v2) bw779 bw793 bw778 bw794 hd_X12_isIn ⟨Nat.le_of_ble_eq_true rfl, Nat.le_of_ble_eq_true rfl⟩ hP (wM_D hD) hS rfl hl.1 rfl (Nat.le_of_ble_eq_true rfl) dX12_canStand_14 ⟨Nat.zero_le _, Nat.zero_le _⟩) hS (fun H locs hP hS => ?_)
  refine lv_istore (lv' := [(4, .int (t_X12_isIn g a (a 2 ((a 9 (v1 : Int32).toNatClampNeg) : Int32).toNatClampNeg) v2)), (3, .int (a 9 (v1 : Int32).toNatClampNeg)), (0, .ref (E.2.1 0)), (1, .int v1), (2, .int v2)]) hx hb dX12_canStand_17 hl (by decide) rfl (fun ls hl => ?_)
  refine lv_iconst (v := 0) hx hb dX12_canStand_19 (by decide) ?_
  refine lv_istore (lv' := [(5, .int 0), (4, .int (t_X12_isIn g a (a 2 ((a 9 (v1 : Int32).toNatClampNeg) : Int32).toNatClampNeg) v2)), (3, .int (a 9 (v1 : Int32).toNatClampNeg)), (0, .ref (E.2.1 0)), (1, .int v1), (2, .int v2)]) hx hb dX12_canStand_20 hl (by decide) rfl (fun ls hl => ?_)
  exact B22 fu v1 v2 (a 9 (v1 : Int32).toNatClampNeg) (t_X12_isIn g a (a 2 ((a 9 (v1 : Int32).toNatClampNeg) : Int32).toNatClampNeg) v2) 0 _ _ _ hP hS (lv_sub hl [3, 4, 5, 2, 1, 0] rfl) hf
def f_X12_isHeld_47 (g : xG) (a : xA) (K14 : Int32 → Int32 → Int32 → Int32 → Int32 → Int32 → Option (Int32)) : Nat → Int32 → Int32 → Int32 → Int32 → Int32 → Int32 → Int32 → Option (Int32)
  | 0, _, _, _, _, _, _, _ => none
  | n + 1, x1, x2, x3, x4, x5, x6, x7 => ck (inB x5 8) ((if (a 1 (x5 : Int32).toNatClampNeg) ≤ x7 then K14 x1 x2 x3 x4 x5 (x6 + 1) else (if x4 = 0 then K14 x1 x2 x3 x4 x5 (x6 + 1) else ck (inB ((3 * x1) + x7) 48) ((if (a 10 (((3 * x1) + x7) : Int32).toNatClampNeg) = x2 then Option.bind (f_X12_on g a x6 x7) (fun u19 => (if u19 = x3 then f_X12_isHeld_47 g a K14 n x1 x2 x3 1 x5 x6 (x7 + 1) else f_X12_isHeld_47 g a K14 n x1 x2 x3 0 x5 x6 (x7 + 1))) else ck (inB (a 10 (((3 * x1) + x7) : Int32).toNatClampNeg) 6) (Option.bind (f_X12_on g a x6 x7) (fun u17 => f_X12_isHeld_47 g a K14 n x1 x2 x3 (t_X12_isIn g a (a 12 ((a 10 (((3 * x1) + x7) : Int32).toNatClampNeg) : Int32).toNatClampNeg) u17) x5 x6 (x7 + 1))))))))
theorem e_X12_isHeld_47 (g : xG) (a : xA) (K14 : Int32 → Int32 → Int32 → Int32 → Int32 → Int32 → Option (Int32)) (n : Nat) (x1 : Int32) (x2 : Int32) (x3 : Int32) (x4 : Int32) (x5 : Int32) (x6 : Int32) (x7 : Int32) : f_X12_isHeld_47 g a K14 (n + 1) x1 x2 x3 x4 x5 x6 x7 = ck (inB x5 8) ((if (a 1 (x5 : Int32).toNatClampNeg) ≤ x7 then K14 x1 x2 x3 x4 x5 (x6 + 1) else (if x4 = 0 then K14 x1 x2 x3 x4 x5 (x6 + 1) else ck (inB ((3 * x1) + x7) 48) ((if (a 10 (((3 * x1) + x7) : Int32).toNatClampNeg) = x2 then Option.bind (f_X12_on g a x6 x7) (fun u19 => (if u19 = x3 then f_X12_isHeld_47 g a K14 n x1 x2 x3 1 x5 x6 (x7 + 1) else f_X12_isHeld_47 g a K14 n x1 x2 x3 0 x5 x6 (x7 + 1))) else ck (inB (a 10 (((3 * x1) + x7) : Int32).toNatClampNeg) 6) (Option.bind (f_X12_on g a x6 x7) (fun u17 => f_X12_isHeld_47 g a K14 n x1 x2 x3 (t_X12_isIn g a (a 12 ((a 10 (((3 * x1) + x7) : Int32).toNatClampNeg) : Int32).toNatClampNeg) u17) x5 x6 (x7 + 1)))))))) := rfl
def f_X12_isHeld_14 (g : xG) (a : xA) : Nat → Int32 → Int32 → Int32 → Int32 → Int32 → Int32 → Option (Int32)
  | 0, _, _, _, _, _, _ => none
  | n + 1, x1, x2, x3, x4, x5, x6 => ck (inB x5 8) (Option.bind (f_X12_power g a (a 1 (x5 : Int32).toNatClampNeg)) (fun u3 => (if u3 ≤ x6 then ck (boB x4) (some x4) else (if x4 = 0 then Option.bind (f_X12_canStand g a x1 x6) (fun u9 => f_X12_isHeld_47 g a (f_X12_isHeld_14 g a n) fu x1 x2 x3 u9 x5 x6 0) else ck (boB x4) (some x4)))))
theorem e_X12_isHeld_14 (g : xG) (a : xA) (n : Nat) (x1 : Int32) (x2 : Int32) (x3 : Int32) (x4 : Int32) (x5 : Int32) (x6 : Int32) : f_X12_isHeld_14 g a (n + 1) x1 x2 x3 x4 x5 x6 = ck (inB x5 8) (Option.bind (f_X12_power g a (a 1 (x5 : Int32).toNatClampNeg)) (fun u3 => (if u3 ≤ x6 then ck (boB x4) (some x4) else (if x4 = 0 then Option.bind (f_X12_canStand g a x1 x6) (fun u9 => f_X12_isHeld_47 g a (f_X12_isHeld_14 g a n) fu x1 x2 x3 u9 x5 x6 0) else ck (boB x4) (some x4))))) := rfl
def f_X12_isHeld (g : xG) (a : xA) (v1 : Int32) (v2 : Int32) (v3 : Int32) : Option (Int32) := ck (inB v1 16) (f_X12_isHeld_14 g a fu v1 v2 v3 0 (a 9 (v1 : Int32).toNatClampNeg) 0)
set_option maxRecDepth 100000 in
set_option maxHeartbeats 40000000 in
theorem c_X12_isHeld (l : Launch) (E : xE) (g : xG) (a : xA) (v1 : Int32) (v2 : Int32) (v3 : Int32) {res : Int32} (hf : f_X12_isHeld g a v1 v2 v3 = some res) : xM l E yX12_isHeld cX12_isHeld 9 (some .boolean) 3 72 [.ref (E.2.1 0), .int v1, .int v2, .int v3] (wM E g a) (xQi E res (wM E g a)) := by
  unfold f_X12_isHeld at hf
  refine xM_of (by decide) (Nat.le_of_ble_eq_true rfl) ?_
  intro p e s m below meth c A hx hb hr hml hts hown hlocks hA hD hP hK hN hS ls hl
  have hw : ∀ w ∈ BW, w.before _ s = true := fun w h => hts w (List.mem_cons_of_mem _ h)
  have C0 : xCtx E p m c cX12_isHeld 9 s _ RX12 A yX12_isHeld cX12_isHeld 9 (some .boolean) := ⟨hx, hb, hml, hown, hts, hA, hK, hN⟩
  have hl : lv_has ls 9 [(0, .ref (E.2.1 0)), (1, .int v1), (2, .int v2), (3, .int v3)] := hl
  have B47 : ∀ (K14 : Int32 → Int32 → Int32 → Int32 → Int32 → Int32 → Option (Int32)) (hK14 : ∀ (x1 : Int32) (x2 : Int32) (x3 : Int32) (x4 : Int32) (x5 : Int32) (x6 : Int32) (H : Heap) (locs : List Loc) (ls : Array Slot), va_P E.1 vwCl (wM E g a) H → va_S A s.heap H locs → lv_has ls 9 [(0, .ref (E.2.1 0)), (1, .int x1), (2, .int x2), (3, .int x3), (4, .int x4), (5, .int x5), (6, .int x6)] → K14 x1 x2 x3 x4 x5 x6 = some res → W p l e ({ frames := 3, cells := 0, slots := 0, locals := 72 }) s m ([.ref (E.2.1 0), .int v1, .int v2, .int v3] : List Value).toArray below meth c H locs 0 0 (MQ below ((xQi E res (wM E g a)) A) ([.ref (E.2.1 0), .int v1, .int v2, .int v3] : List Value).toArray s 0 0 A) (F0 m 14 ls [])) (n : Nat) (x1 : Int32) (x2 : Int32) (x3 : Int32) (x4 : Int32) (x5 : Int32) (x6 : Int32) (x7 : Int32) (H : Heap) (locs : List Loc) (ls : Array Slot), va_P E.1 vwCl (wM E g a) H → va_S A s.heap H locs → lv_has ls 9 [(0, .ref (E.2.1 0)), (1, .int x1), (2, .int x2), (3, .int x3), (4, .int x4), (5, .int x5), (6, .int x6), (7, .int x7)] → f_X12_isHeld_47 g a K14 n x1 x2 x3 x4 x5 x6 x7 = some res → W p l e ({ frames := 3, cells := 0, slots := 0, locals := 72 }) s m ([.ref (E.2.1 0), .int v1, .int v2, .int v3] : List Value).toArray below meth c H locs 0 0 (MQ below ((xQi E res (wM E g a)) A) ([.ref (E.2.1 0), .int v1, .int v2, .int v3] : List Value).toArray s 0 0 A) (F0 m 47 ls []) := by
    intro K14 hK14 n
    induction n with
    | zero => intro x1 x2 x3 x4 x5 x6 x7 H locs ls hP hS hl hf; exact absurd (show (none : Option (Int32)) = some res from hf) (by intro h; cases h)
    | succ n ih =>
      intro x1 x2 x3 x4 x5 x6 x7 H locs ls hP hS hl hf
      replace hf := (e_X12_isHeld_47 g a K14 n x1 x2 x3 x4 x5 x6 x7).symm.trans hf
      refine lv_iload hx hb dX12_isHeld_47 (lv_at hl 7 rfl) ?_
      refine lv_aload_n hx hb dX12_isHeld_49 rfl (lv_at hl 0 rfl) ?_
      refine va_get (C := RX12) (T := TX12) (N := 22) hx hb hw bfX120 hown hK hP 0 (gm_0 E g a) rfl 2 (by decide) (hw _ bw756) (fun _ h9 => h9) rfl dX12_isHeld_50 ?_
      refine lv_iload hx hb dX12_isHeld_53 (lv_at hl 5 rfl) ?_
      obtain ⟨k11, hf⟩ := ck_some hf
      refine va_iald hx hb hK hP 1 0 (gm_1 E g a) rfl (inB_in k11) dX12_isHeld_55 ?_
      refine lv_icmp_ge (tgt := 129) hx hb dX12_isHeld_56 (by decide) (fun c12 => ?_) (fun c12 => ?_)
      · replace hf := (if_pos c12).symm.trans hf
        refine lv_iinc (v := (x6 + 1)) (lv' := [(6, .int (x6 + 1)), (0, .ref (E.2.1 0)), (1, .int x1), (2, .int x2), (3, .int x3), (4, .int x4), (5, .int x5), (7, .int x7)]) hx hb dX12_isHeld_129 hl (k := 6) rfl rfl (by decide) rfl (fun ls hl => ?_)
        refine lv_goto (tgt := 14) hx hb dX12_isHeld_132 (by decide) ?_
        exact hK14 x1 x2 x3 x4 x5 (x6 + 1) _ _ _ hP hS (lv_sub hl [1, 2, 3, 4, 5, 6, 0] rfl) hf
      · replace hf := (if_neg c12).symm.trans hf
        refine lv_iload hx hb dX12_isHeld_59 (lv_at hl 4 rfl) ?_
        refine lv_if_eq (tgt := 129) hx hb dX12_isHeld_61 (by decide) (fun c13 => ?_) (fun c13 => ?_)
        · replace hf := (if_pos c13).symm.trans hf
          refine lv_iinc (v := (x6 + 1)) (lv' := [(6, .int (x6 + 1)), (0, .ref (E.2.1 0)), (1, .int x1), (2, .int x2), (3, .int x3), (4, .int x4), (5, .int x5), (7, .int x7)]) hx hb dX12_isHeld_129 hl (k := 6) rfl rfl (by decide) rfl (fun ls hl => ?_)
          refine lv_goto (tgt := 14) hx hb dX12_isHeld_132 (by decide) ?_
          exact hK14 x1 x2 x3 x4 x5 (x6 + 1) _ _ _ hP hS (lv_sub hl [1, 2, 3, 4, 5, 6, 0] rfl) hf
        · replace hf := (if_neg c13).symm.trans hf
          refine lv_aload_n hx hb dX12_isHeld_64 rfl (lv_at hl 0 rfl) ?_
          refine va_get (C := RX12) (T := TX12) (N := 22) hx hb hw bfX120 hown hK hP 0 (gm_0 E g a) rfl 17 (by decide) (hw _ bw766) (fun _ h9 => h9) rfl dX12_isHeld_65 ?_
          refine lv_iconst (v := 3) hx hb dX12_isHeld_68 (by decide) ?_
          refine lv_iload_n hx hb dX12_isHeld_69 rfl (lv_at hl 1 rfl) ?_
          refine lv_imul hx hb dX12_isHeld_70 ?_
          refine lv_iload hx hb dX12_isHeld_71 (lv_at hl 7 rfl) ?_
          refine lv_iadd hx hb dX12_isHeld_73 ?_
          obtain ⟨k14, hf⟩ := ck_some hf
          refine va_iald hx hb hK hP 10 0 (gm_10 E g a) rfl (inB_in k14) dX12_isHeld_74 ?_
          refine lv_istore (lv' := [(8, .int (a 10 (((3 * x1) + x7) : Int32).toNatClampNeg)), (0, .ref (E.2.1 0)), (1, .int x1), (2, .int x2), (3, .int x3), (4, .int x4), (5, .int x5), (6, .int x6), (7, .int x7)]) hx hb dX12_isHeld_75 hl (by decide) rfl (fun ls hl => ?_)
          refine lv_iload hx hb dX12_isHeld_77 (lv_at hl 0 rfl) ?_
          refine lv_iload_n hx hb dX12_isHeld_79 rfl (lv_at hl 3 rfl) ?_
          refine lv_icmp_ne (tgt := 103) hx hb dX12_isHeld_80 (by decide) (fun c15 => ?_) (fun c15 => ?_)
          · replace hf := (if_neg c15).symm.trans hf
            refine lv_aload_n hx hb dX12_isHeld_103 rfl (lv_at hl 1 rfl) ?_
            refine va_get (C := RX12) (T := TX12) (N := 22) hx hb hw bfX120 hown hK hP 0 (gm_0 E g a) rfl 19 (by decide) (hw _ bw768) (fun _ h9 => h9) rfl dX12_isHeld_104 ?_
            refine lv_iload hx hb dX12_isHeld_107 (lv_at hl 0 rfl) ?_
            obtain ⟨k16, hf⟩ := ck_some hf
            refine va_iald hx hb hK hP 12 0 (gm_12 E g a) rfl (inB_in k16) dX12_isHeld_109 ?_
            refine lv_aload_n hx hb dX12_isHeld_110 rfl (lv_at hl 1 rfl) ?_
            refine lv_iload hx hb dX12_isHeld_111 (lv_at hl 7 rfl) ?_
            refine lv_iload hx hb dX12_isHeld_113 (lv_at hl 8 rfl) ?_
            obtain ⟨u17, e18, hf⟩ := bd_some hf
            refine xci (xRunV (rest := [.int (a 12 ((a 10 (((3 * x1) + x7) : Int32).toNatClampNeg) : Int32).toNatClampNeg)]) (As := [.int x6, .int x7]) (C := RX12) (k := 2) C0 (c_X12_on l E g a x6 x7 e18) bw774 bw823 bw778 bw824 bw825 hd_X12_on ⟨Nat.le_of_ble_eq_true rfl, Nat.le_of_ble_eq_true rfl⟩ hP (wM_D hD) hS (va_recv hK hP (ci := 12) rfl (gm_0 E g a)) rfl hl.1 rfl (Nat.le_of_ble_eq_true rfl) dX12_isHeld_115 ⟨Nat.zero_le _, Nat.zero_le _⟩) hS (fun H locs hP hS => ?_)
            refine xci (xRunS (rest := []) (As := [.int (a 12 ((a 10 (((3 * x1) + x7) : Int32).toNatClampNeg) : Int32).toNatClampNeg), .int u17]) (k := 2) C0 (c_X12_isIn l E g a (a 12 ((a 10 (((3 * x1) + x7) : Int32).toNatClampNeg) : Int32).toNatClampNeg) u17) bw779 bw793 bw778 bw794 hd_X12_isIn ⟨Nat.le_of_ble_eq_true rfl, Nat.le_of_ble_eq_true rfl⟩ hP (wM_D hD) hS rfl hl.1 rfl (Nat.le_of_ble_eq_true rfl) dX12_isHeld_118 ⟨Nat.zero_le _, Nat.zero_le _⟩) hS (fun H locs hP hS => ?_)
            refine lv_istore (lv' := [(4, .int (t_X12_isIn g a (a 12 ((a 10 (((3 * x1) + x7) : Int32).toNatClampNeg) : Int32).toNatClampNeg) u17)), (8, .int (a 10 (((3 * x1) + x7) : Int32).toNatClampNeg)), (0, .ref (E.2.1 0)), (1, .int x1), (2, .int x2), (3, .int x3), (5, .int x5), (6, .int x6), (7, .int x7)]) hx hb dX12_isHeld_121 hl (by decide) rfl (fun ls hl => ?_)
            refine lv_iinc (v := (x7 + 1)) (lv' := [(7, .int (x7 + 1)), (4, .int (t_X12_isIn g a (a 12 ((a 10 (((3 * x1) + x7) : Int32).toNatClampNeg) : Int32).toNatClampNeg) u17)), (8, .int (a 10 (((3 * x1) + x7) : Int32).toNatClampNeg)), (0, .ref (E.2.1 0)), (1, .int x1), (2, .int x2), (3, .int x3), (5, .int x5), (6, .int x6)]) hx hb dX12_isHeld_123 hl (k := 8) rfl rfl (by decide) rfl (fun ls hl => ?_)
            refine lv_goto (tgt := 47) hx hb dX12_isHeld_126 (by decide) ?_
            exact ih x1 x2 x3 (t_X12_isIn g a (a 12 ((a 10 (((3 * x1) + x7) : Int32).toNatClampNeg) : Int32).toNatClampNeg) u17) x5 x6 (x7 + 1) _ _ _ hP hS (lv_sub hl [3, 4, 5, 6, 1, 7, 8, 0] rfl) hf
          · replace hf := (if_pos c15).symm.trans hf
            refine lv_aload_n hx hb dX12_isHeld_83 rfl (lv_at hl 1 rfl) ?_
            refine lv_iload hx hb dX12_isHeld_84 (lv_at hl 7 rfl) ?_
            refine lv_iload hx hb dX12_isHeld_86 (lv_at hl 8 rfl) ?_
            obtain ⟨u19, e20, hf⟩ := bd_some hf
            refine xci (xRunV (rest := []) (As := [.int x6, .int x7]) (C := RX12) (k := 2) C0 (c_X12_on l E g a x6 x7 e20) bw774 bw823 bw778 bw824 bw825 hd_X12_on ⟨Nat.le_of_ble_eq_true rfl, Nat.le_of_ble_eq_true rfl⟩ hP (wM_D hD) hS (va_recv hK hP (ci := 12) rfl (gm_0 E g a)) rfl hl.1 rfl (Nat.le_of_ble_eq_true rfl) dX12_isHeld_88 ⟨Nat.zero_le _, Nat.zero_le _⟩) hS (fun H locs hP hS => ?_)
            refine lv_iload_n hx hb dX12_isHeld_91 rfl (lv_at hl 4 rfl) ?_
            refine lv_icmp_ne (tgt := 99) hx hb dX12_isHeld_92 (by decide) (fun c21 => ?_) (fun c21 => ?_)
            · replace hf := (if_neg c21).symm.trans hf
              refine lv_iconst (v := 0) hx hb dX12_isHeld_99 (by decide) ?_
              refine lv_goto (tgt := 121) hx hb dX12_isHeld_100 (by decide) ?_
              refine lv_istore (lv' := [(4, .int 0), (8, .int (a 10 (((3 * x1) + x7) : Int32).toNatClampNeg)), (0, .ref (E.2.1 0)), (1, .int x1), (2, .int x2), (3, .int x3), (5, .int x5), (6, .int x6), (7, .int x7)]) hx hb dX12_isHeld_121 hl (by decide) rfl (fun ls hl => ?_)
              refine lv_iinc (v := (x7 + 1)) (lv' := [(7, .int (x7 + 1)), (4, .int 0), (8, .int (a 10 (((3 * x1) + x7) : Int32).toNatClampNeg)), (0, .ref (E.2.1 0)), (1, .int x1), (2, .int x2), (3, .int x3), (5, .int x5), (6, .int x6)]) hx hb dX12_isHeld_123 hl (k := 8) rfl rfl (by decide) rfl (fun ls hl => ?_)
              refine lv_goto (tgt := 47) hx hb dX12_isHeld_126 (by decide) ?_
              exact ih x1 x2 x3 0 x5 x6 (x7 + 1) _ _ _ hP hS (lv_sub hl [3, 4, 5, 6, 1, 7, 8, 0] rfl) hf
            · replace hf := (if_pos c21).symm.trans hf
              refine lv_iconst (v := 1) hx hb dX12_isHeld_95 (by decide) ?_
              refine lv_goto (tgt := 121) hx hb dX12_isHeld_96 (by decide) ?_
              refine lv_istore (lv' := [(4, .int 1), (8, .int (a 10 (((3 * x1) + x7) : Int32).toNatClampNeg)), (0, .ref (E.2.1 0)), (1, .int x1), (2, .int x2), (3, .int x3), (5, .int x5), (6, .int x6), (7, .int x7)]) hx hb dX12_isHeld_121 hl (by decide) rfl (fun ls hl => ?_)
              refine lv_iinc (v := (x7 + 1)) (lv' := [(7, .int (x7 + 1)), (4, .int 1), (8, .int (a 10 (((3 * x1) + x7) : Int32).toNatClampNeg)), (0, .ref (E.2.1 0)), (1, .int x1), (2, .int x2), (3, .int x3), (5, .int x5), (6, .int x6)]) hx hb dX12_isHeld_123 hl (k := 8) rfl rfl (by decide) rfl (fun ls hl => ?_)
              refine lv_goto (tgt := 47) hx hb dX12_isHeld_126 (by decide) ?_
              exact ih x1 x2 x3 1 x5 x6 (x7 + 1) _ _ _ hP hS (lv_sub hl [3, 4, 5, 6, 1, 7, 8, 0] rfl) hf
  have B14 : ∀ (n : Nat) (x1 : Int32) (x2 : Int32) (x3 : Int32) (x4 : Int32) (x5 : Int32) (x6 : Int32) (H : Heap) (locs : List Loc) (ls : Array Slot), va_P E.1 vwCl (wM E g a) H → va_S A s.heap H locs → lv_has ls 9 [(0, .ref (E.2.1 0)), (1, .int x1), (2, .int x2), (3, .int x3), (4, .int x4), (5, .int x5), (6, .int x6)] → f_X12_isHeld_14 g a n x1 x2 x3 x4 x5 x6 = some res → W p l e ({ frames := 3, cells := 0, slots := 0, locals := 72 }) s m ([.ref (E.2.1 0), .int v1, .int v2, .int v3] : List Value).toArray below meth c H locs 0 0 (MQ below ((xQi E res (wM E g a)) A) ([.ref (E.2.1 0), .int v1, .int v2, .int v3] : List Value).toArray s 0 0 A) (F0 m 14 ls []) := by
    intro n
    induction n with
    | zero => intro x1 x2 x3 x4 x5 x6 H locs ls hP hS hl hf; exact absurd (show (none : Option (Int32)) = some res from hf) (by intro h; cases h)
    | succ n ih =>
      intro x1 x2 x3 x4 x5 x6 H locs ls hP hS hl hf
      replace hf := (e_X12_isHeld_14 g a n x1 x2 x3 x4 x5 x6).symm.trans hf
      refine lv_iload hx hb dX12_isHeld_14 (lv_at hl 6 rfl) ?_
      refine lv_aload_n hx hb dX12_isHeld_16 rfl (lv_at hl 0 rfl) ?_
      refine lv_aload_n hx hb dX12_isHeld_17 rfl (lv_at hl 0 rfl) ?_
      refine va_get (C := RX12) (T := TX12) (N := 22) hx hb hw bfX120 hown hK hP 0 (gm_0 E g a) rfl 2 (by decide) (hw _ bw756) (fun _ h9 => h9) rfl dX12_isHeld_18 ?_
      refine lv_iload hx hb dX12_isHeld_21 (lv_at hl 5 rfl) ?_
      obtain ⟨k2, hf⟩ := ck_some hf
      refine va_iald hx hb hK hP 1 0 (gm_1 E g a) rfl (inB_in k2) dX12_isHeld_23 ?_
      obtain ⟨u3, e4, hf⟩ := bd_some hf
      refine xci (xRunV (rest := [.int x6]) (As := [.int (a 1 (x5 : Int32).toNatClampNeg)]) (C := RX12) (k := 1) C0 (c_X12_power l E g a (a 1 (x5 : Int32).toNatClampNeg) e4) bw773 bw775 bw778 bw776 bw777 hd_X12_power ⟨Nat.le_of_ble_eq_true rfl, Nat.le_of_ble_eq_true rfl⟩ hP (wM_D hD) hS (va_recv hK hP (ci := 12) rfl (gm_0 E g a)) rfl hl.1 rfl (Nat.le_of_ble_eq_true rfl) dX12_isHeld_24 ⟨Nat.zero_le _, Nat.zero_le _⟩) hS (fun H locs hP hS => ?_)
      refine lv_icmp_ge (tgt := 135) hx hb dX12_isHeld_27 (by decide) (fun c5 => ?_) (fun c5 => ?_)
      · replace hf := (if_pos c5).symm.trans hf
        refine lv_iload hx hb dX12_isHeld_135 (lv_at hl 4 rfl) ?_
        obtain ⟨k6, hf⟩ := ck_some hf
        exact xz_retS (fr := (fun r => r)) (fw := (fun r => wM E g a)) hx hb hr hlocks (Option.some.inj hf) (boB_bo k6) hP hS dX12_isHeld_137
      · replace hf := (if_neg c5).symm.trans hf
        refine lv_iload hx hb dX12_isHeld_30 (lv_at hl 4 rfl) ?_
        refine lv_if_ne (tgt := 135) hx hb dX12_isHeld_32 (by decide) (fun c7 => ?_) (fun c7 => ?_)
        · replace hf := (if_neg c7).symm.trans hf
          refine lv_iload hx hb dX12_isHeld_135 (lv_at hl 4 rfl) ?_
          obtain ⟨k8, hf⟩ := ck_some hf
          exact xz_retS (fr := (fun r => r)) (fw := (fun r => wM E g a)) hx hb hr hlocks (Option.some.inj hf) (boB_bo k8) hP hS dX12_isHeld_137
        · replace hf := (if_pos c7).symm.trans hf
          refine lv_aload_n hx hb dX12_isHeld_35 rfl (lv_at hl 0 rfl) ?_
          refine lv_iload_n hx hb dX12_isHeld_36 rfl (lv_at hl 1 rfl) ?_
          refine lv_iload hx hb dX12_isHeld_37 (lv_at hl 6 rfl) ?_
          obtain ⟨u9, e10, hf⟩ := bd_some hf
          refine xci (xRunV (rest := []) (As := [.int x1, .int x6]) (C := RX12) (k := 2) C0 (c_X12_canStand l E g a x1 x6 e10) bw968 bw970 bw778 bw971 bw972 hd_X12_canStand ⟨Nat.le_of_ble_eq_true rfl, Nat.le_of_ble_eq_true rfl⟩ hP (wM_D hD) hS (va_recv hK hP (ci := 12) rfl (gm_0 E g a)) rfl hl.1 rfl (Nat.le_of_ble_eq_true rfl) dX12_isHeld_39 ⟨Nat.zero_le _, Nat.zero_le _⟩) hS (fun H locs hP hS => ?_)
          refine lv_istore (lv' := [(4, .int u9), (0, .ref (E.2.1 0)), (1, .int x1), (2, .int x2), (3, .int x3), (5, .int x5), (6, .int x6)]) hx hb dX12_isHeld_42 hl (by decide) rfl (fun ls hl => ?_)
          refine lv_iconst (v := 0) hx hb dX12_isHeld_44 (by decide) ?_
          refine lv_istore (lv' := [(7, .int 0), (4, .int u9), (0, .ref (E.2.1 0)), (1, .int x1), (2, .int x2), (3, .int x3), (5, .int x5), (6, .int x6)]) hx hb dX12_isHeld_45 hl (by decide) rfl (fun ls hl => ?_)
          exact B47 (f_X12_isHeld_14 g a n) ih fu x1 x2 x3 u9 x5 x6 0 _ _ _ hP hS (lv_sub hl [2, 3, 4, 5, 1, 6, 7, 0] rfl) hf
  refine lv_iconst (v := 0) hx hb dX12_isHeld_0 (by decide) ?_
  refine lv_istore (lv' := [(4, .int 0), (0, .ref (E.2.1 0)), (1, .int v1), (2, .int v2), (3, .int v3)]) hx hb dX12_isHeld_1 hl (by decide) rfl (fun ls hl => ?_)
  refine lv_aload_n hx hb dX12_isHeld_3 rfl (lv_at hl 1 rfl) ?_
  refine va_get (C := RX12) (T := TX12) (N := 22) hx hb hw bfX120 hown hK hP 0 (gm_0 E g a) rfl 16 (by decide) (hw _ bw765) (fun _ h9 => h9) rfl dX12_isHeld_4 ?_
  refine lv_iload_n hx hb dX12_isHeld_7 rfl (lv_at hl 2 rfl) ?_
  obtain ⟨k1, hf⟩ := ck_some hf
  refine va_iald hx hb hK hP 9 0 (gm_9 E g a) rfl (inB_in k1) dX12_isHeld_8 ?_
  refine lv_istore (lv' := [(5, .int (a 9 (v1 : Int32).toNatClampNeg)), (4, .int 0), (0, .ref (E.2.1 0)), (1, .int v1), (2, .int v2), (3, .int v3)]) hx hb dX12_isHeld_9 hl (by decide) rfl (fun ls hl => ?_)
  refine lv_iconst (v := 0) hx hb dX12_isHeld_11 (by decide) ?_
  refine lv_istore (lv' := [(6, .int 0), (5, .int (a 9 (v1 : Int32).toNatClampNeg)), (4, .int 0), (0, .ref (E.2.1 0)), (1, .int v1), (2, .int v2), (3, .int v3)]) hx hb dX12_isHeld_12 hl (by decide) rfl (fun ls hl => ?_)
  exact B14 fu v1 v2 v3 0 (a 9 (v1 : Int32).toNatClampNeg) 0 _ _ _ hP hS (lv_sub hl [3, 4, 5, 6, 2, 1, 0] rfl) hf
def f_X12_concerns_5 (g : xG) (a : xA) : Nat → Int32 → Int32 → Int32 → Int32 → Option (Int32)
  | 0, _, _, _, _ => none
  | n + 1, x1, x2, x3, x4 => ck (inB x1 16) (ck (inB (a 9 (x1 : Int32).toNatClampNeg) 8) ((if (a 1 ((a 9 (x1 : Int32).toNatClampNeg) : Int32).toNatClampNeg) ≤ x4 then ck (boB x3) (some x3) else (if x3 = 0 then ck (inB ((3 * x1) + x4) 48) ((if (a 10 (((3 * x1) + x4) : Int32).toNatClampNeg) = x2 then f_X12_concerns_5 g a n x1 x2 1 (x4 + 1) else f_X12_concerns_5 g a n x1 x2 0 (x4 + 1))) else f_X12_concerns_5 g a n x1 x2 1 (x4 + 1)))))
theorem e_X12_concerns_5 (g : xG) (a : xA) (n : Nat) (x1 : Int32) (x2 : Int32) (x3 : Int32) (x4 : Int32) : f_X12_concerns_5 g a (n + 1) x1 x2 x3 x4 = ck (inB x1 16) (ck (inB (a 9 (x1 : Int32).toNatClampNeg) 8) ((if (a 1 ((a 9 (x1 : Int32).toNatClampNeg) : Int32).toNatClampNeg) ≤ x4 then ck (boB x3) (some x3) else (if x3 = 0 then ck (inB ((3 * x1) + x4) 48) ((if (a 10 (((3 * x1) + x4) : Int32).toNatClampNeg) = x2 then f_X12_concerns_5 g a n x1 x2 1 (x4 + 1) else f_X12_concerns_5 g a n x1 x2 0 (x4 + 1))) else f_X12_concerns_5 g a n x1 x2 1 (x4 + 1))))) := rfl
def f_X12_concerns (g : xG) (a : xA) (v1 : Int32) (v2 : Int32) : Option (Int32) := f_X12_concerns_5 g a fu v1 v2 0 0
set_option maxRecDepth 100000 in
set_option maxHeartbeats 40000000 in
theorem c_X12_concerns (l : Launch) (E : xE) (g : xG) (a : xA) (v1 : Int32) (v2 : Int32) {res : Int32} (hf : f_X12_concerns g a v1 v2 = some res) : xM l E yX12_concerns cX12_concerns 5 (some .boolean) 0 0 [.ref (E.2.1 0), .int v1, .int v2] (wM E g a) (xQi E res (wM E g a)) := by
  unfold f_X12_concerns at hf
  refine xM_of (by decide) (Nat.le_of_ble_eq_true rfl) ?_
  intro p e s m below meth c A hx hb hr hml hts hown hlocks hA hD hP hK hN hS ls hl
  have hw : ∀ w ∈ BW, w.before _ s = true := fun w h => hts w (List.mem_cons_of_mem _ h)
  have C0 : xCtx E p m c cX12_concerns 5 s _ RX12 A yX12_concerns cX12_concerns 5 (some .boolean) := ⟨hx, hb, hml, hown, hts, hA, hK, hN⟩
  have hl : lv_has ls 5 [(0, .ref (E.2.1 0)), (1, .int v1), (2, .int v2)] := hl
  have B5 : ∀ (n : Nat) (x1 : Int32) (x2 : Int32) (x3 : Int32) (x4 : Int32) (H : Heap) (locs : List Loc) (ls : Array Slot), va_P E.1 vwCl (wM E g a) H → va_S A s.heap H locs → lv_has ls 5 [(0, .ref (E.2.1 0)), (1, .int x1), (2, .int x2), (3, .int x3), (4, .int x4)] → f_X12_concerns_5 g a n x1 x2 x3 x4 = some res → W p l e ({ frames := 0, cells := 0, slots := 0, locals := 0 }) s m ([.ref (E.2.1 0), .int v1, .int v2] : List Value).toArray below meth c H locs 0 0 (MQ below ((xQi E res (wM E g a)) A) ([.ref (E.2.1 0), .int v1, .int v2] : List Value).toArray s 0 0 A) (F0 m 5 ls []) := by
    intro n
    induction n with
    | zero => intro x1 x2 x3 x4 H locs ls hP hS hl hf; exact absurd (show (none : Option (Int32)) = some res from hf) (by intro h; cases h)
    | succ n ih =>
      intro x1 x2 x3 x4 H locs ls hP hS hl hf
      replace hf := (e_X12_concerns_5 g a n x1 x2 x3 x4).symm.trans hf
      refine lv_iload hx hb dX12_concerns_5 (lv_at hl 4 rfl) ?_
      refine lv_aload_n hx hb dX12_concerns_7 rfl (lv_at hl 0 rfl) ?_
      refine va_get (C := RX12) (T := TX12) (N := 22) hx hb hw bfX120 hown hK hP 0 (gm_0 E g a) rfl 2 (by decide) (hw _ bw756) (fun _ h9 => h9) rfl dX12_concerns_8 ?_
      refine lv_aload_n hx hb dX12_concerns_11 rfl (lv_at hl 0 rfl) ?_
      refine va_get (C := RX12) (T := TX12) (N := 22) hx hb hw bfX120 hown hK hP 0 (gm_0 E g a) rfl 16 (by decide) (hw _ bw765) (fun _ h9 => h9) rfl dX12_concerns_12 ?_
      refine lv_iload_n hx hb dX12_concerns_15 rfl (lv_at hl 1 rfl) ?_
      obtain ⟨k1, hf⟩ := ck_some hf
      refine va_iald hx hb hK hP 9 0 (gm_9 E g a) rfl (inB_in k1) dX12_concerns_16 ?_
      obtain ⟨k2, hf⟩ := ck_some hf
      refine va_iald hx hb hK hP 1 0 (gm_1 E g a) rfl (inB_in k2) dX12_concerns_17 ?_
      refine lv_icmp_ge (tgt := 52) hx hb dX12_concerns_18 (by decide) (fun c3 => ?_) (fun c3 => ?_)
      · replace hf := (if_pos c3).symm.trans hf
        refine lv_iload_n hx hb dX12_concerns_52 rfl (lv_at hl 3 rfl) ?_
        obtain ⟨k4, hf⟩ := ck_some hf
        exact xz_retS (fr := (fun r => r)) (fw := (fun r => wM E g a)) hx hb hr hlocks (Option.some.inj hf) (boB_bo k4) hP hS dX12_concerns_53
      · replace hf := (if_neg c3).symm.trans hf
        refine lv_iload_n hx hb dX12_concerns_21 rfl (lv_at hl 3 rfl) ?_
        refine lv_if_ne (tgt := 40) hx hb dX12_concerns_22 (by decide) (fun c5 => ?_) (fun c5 => ?_)
        · replace hf := (if_neg c5).symm.trans hf
          refine lv_iconst (v := 1) hx hb dX12_concerns_40 (by decide) ?_
          refine lv_goto (tgt := 45) hx hb dX12_concerns_41 (by decide) ?_
          refine lv_istore_n (lv' := [(3, .int 1), (0, .ref (E.2.1 0)), (1, .int x1), (2, .int x2), (4, .int x4)]) hx hb dX12_concerns_45 rfl hl (by decide) rfl (fun ls hl => ?_)
          refine lv_iinc (v := (x4 + 1)) (lv' := [(4, .int (x4 + 1)), (3, .int 1), (0, .ref (E.2.1 0)), (1, .int x1), (2, .int x2)]) hx hb dX12_concerns_46 hl (k := 4) rfl rfl (by decide) rfl (fun ls hl => ?_)
          refine lv_goto (tgt := 5) hx hb dX12_concerns_49 (by decide) ?_
          exact ih x1 x2 1 (x4 + 1) _ _ _ hP hS (lv_sub hl [2, 3, 4, 1, 0] rfl) hf
        · replace hf := (if_pos c5).symm.trans hf
          refine lv_aload_n hx hb dX12_concerns_25 rfl (lv_at hl 0 rfl) ?_
          refine va_get (C := RX12) (T := TX12) (N := 22) hx hb hw bfX120 hown hK hP 0 (gm_0 E g a) rfl 17 (by decide) (hw _ bw766) (fun _ h9 => h9) rfl dX12_concerns_26 ?_
          refine lv_iconst (v := 3) hx hb dX12_concerns_29 (by decide) ?_
          refine lv_iload_n hx hb dX12_concerns_30 rfl (lv_at hl 1 rfl) ?_
          refine lv_imul hx hb dX12_concerns_31 ?_
          refine lv_iload hx hb dX12_concerns_32 (lv_at hl 4 rfl) ?_
          refine lv_iadd hx hb dX12_concerns_34 ?_
          obtain ⟨k6, hf⟩ := ck_some hf
          refine va_iald hx hb hK hP 10 0 (gm_10 E g a) rfl (inB_in k6) dX12_concerns_35 ?_
          refine lv_iload_n hx hb dX12_concerns_36 rfl (lv_at hl 2 rfl) ?_
          refine lv_icmp_ne (tgt := 44) hx hb dX12_concerns_37 (by decide) (fun c7 => ?_) (fun c7 => ?_)
          · replace hf := (if_neg c7).symm.trans hf
            refine lv_iconst (v := 0) hx hb dX12_concerns_44 (by decide) ?_
            refine lv_istore_n (lv' := [(3, .int 0), (0, .ref (E.2.1 0)), (1, .int x1), (2, .int x2), (4, .int x4)]) hx hb dX12_concerns_45 rfl hl (by decide) rfl (fun ls hl => ?_)
            refine lv_iinc (v := (x4 + 1)) (lv' := [(4, .int (x4 + 1)), (3, .int 0), (0, .ref (E.2.1 0)), (1, .int x1), (2, .int x2)]) hx hb dX12_concerns_46 hl (k := 4) rfl rfl (by decide) rfl (fun ls hl => ?_)
            refine lv_goto (tgt := 5) hx hb dX12_concerns_49 (by decide) ?_
            exact ih x1 x2 0 (x4 + 1) _ _ _ hP hS (lv_sub hl [2, 3, 4, 1, 0] rfl) hf
          · replace hf := (if_pos c7).symm.trans hf
            refine lv_iconst (v := 1) hx hb dX12_concerns_40 (by decide) ?_
            refine lv_goto (tgt := 45) hx hb dX12_concerns_41 (by decide) ?_
            refine lv_istore_n (lv' := [(3, .int 1), (0, .ref (E.2.1 0)), (1, .int x1), (2, .int x2), (4, .int x4)]) hx hb dX12_concerns_45 rfl hl (by decide) rfl (fun ls hl => ?_)
            refine lv_iinc (v := (x4 + 1)) (lv' := [(4, .int (x4 + 1)), (3, .int 1), (0, .ref (E.2.1 0)), (1, .int x1), (2, .int x2)]) hx hb dX12_concerns_46 hl (k := 4) rfl rfl (by decide) rfl (fun ls hl => ?_)
            refine lv_goto (tgt := 5) hx hb dX12_concerns_49 (by decide) ?_
            exact ih x1 x2 1 (x4 + 1) _ _ _ hP hS (lv_sub hl [2, 3, 4, 1, 0] rfl) hf
  refine lv_iconst (v := 0) hx hb dX12_concerns_0 (by decide) ?_
  refine lv_istore_n (lv' := [(3, .int 0), (0, .ref (E.2.1 0)), (1, .int v1), (2, .int v2)]) hx hb dX12_concerns_1 rfl hl (by decide) rfl (fun ls hl => ?_)
  refine lv_iconst (v := 0) hx hb dX12_concerns_2 (by decide) ?_
  refine lv_istore (lv' := [(4, .int 0), (3, .int 0), (0, .ref (E.2.1 0)), (1, .int v1), (2, .int v2)]) hx hb dX12_concerns_3 hl (by decide) rfl (fun ls hl => ?_)
  exact B5 fu v1 v2 0 0 _ _ _ hP hS (lv_sub hl [2, 3, 4, 1, 0] rfl) hf
def f_X12_findsLeft_40 (g : xG) (K32 : xA → Int32 → Option (xA)) : Nat → xA → Int32 → Int32 → Option (xA)
  | 0, _, _, _ => none
  | n + 1, a, x1, x2 => (if (((g 7) * (g 6)) * (g 0)) ≤ x2 then K32 a x1 else ck (nzB (g 0)) (ck (nzB (g 6)) (ck (nzB (g 0)) (ck (nzB (g 6)) (ck (nzB (g 0)) (ck (inB ((x2 / (g 0)) - (x2 / (g 0)) / (g 6) * (g 6)) 6) ((if (t_X12_isIn g a (a 12 (((x2 / (g 0)) - (x2 / (g 0)) / (g 6) * (g 6)) : Int32).toNatClampNeg) (x2 - x2 / (g 0) * (g 0))) = 0 then f_X12_findsLeft_40 g K32 n a x1 (x2 + 1) else Option.bind (f_X12_concerns g a ((x2 / (g 0)) / (g 6)) ((x2 / (g 0)) - (x2 / (g 0)) / (g 6) * (g 6))) (fun u12 => (if u12 = 0 then f_X12_findsLeft_40 g K32 n a x1 (x2 + 1) else Option.bind (f_X12_isHeld g a ((x2 / (g 0)) / (g 6)) ((x2 / (g 0)) - (x2 / (g 0)) / (g 6) * (g 6)) (x2 - x2 / (g 0) * (g 0))) (fun u15 => (if u15 = 0 then ck (inB ((x2 / (g 0)) - (x2 / (g 0)) / (g 6) * (g 6)) 6) (ck (inB ((x2 / (g 0)) - (x2 / (g 0)) / (g 6) * (g 6)) 6) (f_X12_findsLeft_40 g K32 n (upA a 12 (upd (a 12) (((x2 / (g 0)) - (x2 / (g 0)) / (g 6) * (g 6)) : Int32).toNatClampNeg ((a 12 (((x2 / (g 0)) - (x2 / (g 0)) / (g 6) * (g 6)) : Int32).toNatClampNeg) &&& (((1 : Int32) <<< ((x2 - x2 / (g 0) * (g 0)) &&& 31)) ^^^ (-1))))) 1 (x2 + 1))) else f_X12_findsLeft_40 g K32 n a x1 (x2 + 1)))))))))))))
theorem e_X12_findsLeft_40 (g : xG) (K32 : xA → Int32 → Option (xA)) (n : Nat) (a : xA) (x1 : Int32) (x2 : Int32) : f_X12_findsLeft_40 g K32 (n + 1) a x1 x2 = (if (((g 7) * (g 6)) * (g 0)) ≤ x2 then K32 a x1 else ck (nzB (g 0)) (ck (nzB (g 6)) (ck (nzB (g 0)) (ck (nzB (g 6)) (ck (nzB (g 0)) (ck (inB ((x2 / (g 0)) - (x2 / (g 0)) / (g 6) * (g 6)) 6) ((if (t_X12_isIn g a (a 12 (((x2 / (g 0)) - (x2 / (g 0)) / (g 6) * (g 6)) : Int32).toNatClampNeg) (x2 - x2 / (g 0) * (g 0))) = 0 then f_X12_findsLeft_40 g K32 n a x1 (x2 + 1) else Option.bind (f_X12_concerns g a ((x2 / (g 0)) / (g 6)) ((x2 / (g 0)) - (x2 / (g 0)) / (g 6) * (g 6))) (fun u12 => (if u12 = 0 then f_X12_findsLeft_40 g K32 n a x1 (x2 + 1) else Option.bind (f_X12_isHeld g a ((x2 / (g 0)) / (g 6)) ((x2 / (g 0)) - (x2 / (g 0)) / (g 6) * (g 6)) (x2 - x2 / (g 0) * (g 0))) (fun u15 => (if u15 = 0 then ck (inB ((x2 / (g 0)) - (x2 / (g 0)) / (g 6) * (g 6)) 6) (ck (inB ((x2 / (g 0)) - (x2 / (g 0)) / (g 6) * (g 6)) 6) (f_X12_findsLeft_40 g K32 n (upA a 12 (upd (a 12) (((x2 / (g 0)) - (x2 / (g 0)) / (g 6) * (g 6)) : Int32).toNatClampNeg ((a 12 (((x2 / (g 0)) - (x2 / (g 0)) / (g 6) * (g 6)) : Int32).toNatClampNeg) &&& (((1 : Int32) <<< ((x2 - x2 / (g 0) * (g 0)) &&& 31)) ^^^ (-1))))) 1 (x2 + 1))) else f_X12_findsLeft_40 g K32 n a x1 (x2 + 1))))))))))))) := rfl
def f_X12_findsLeft_32 (g : xG) : Nat → xA → Int32 → Option (xA)
  | 0, _, _ => none
  | n + 1, a, x1 => (if x1 = 0 then some a else f_X12_findsLeft_40 g (f_X12_findsLeft_32 g n) fu a 0 0)
theorem e_X12_findsLeft_32 (g : xG) (n : Nat) (a : xA) (x1 : Int32) : f_X12_findsLeft_32 g (n + 1) a x1 = (if x1 = 0 then some a else f_X12_findsLeft_40 g (f_X12_findsLeft_32 g n) fu a 0 0) := rfl
def f_X12_findsLeft_2 (g : xG) : Nat → xA → Int32 → Option (xA)
  | 0, _, _ => none
  | n + 1, a, x1 => (if (g 6) ≤ x1 then f_X12_findsLeft_32 g fu a 1 else ck (inB x1 6) (f_X12_findsLeft_2 g n (upA a 12 (upd (a 12) (x1 : Int32).toNatClampNeg (((1 : Int32) <<< ((g 0) &&& 31)) - 1))) (x1 + 1)))
theorem e_X12_findsLeft_2 (g : xG) (n : Nat) (a : xA) (x1 : Int32) : f_X12_findsLeft_2 g (n + 1) a x1 = (if (g 6) ≤ x1 then f_X12_findsLeft_32 g fu a 1 else ck (inB x1 6) (f_X12_findsLeft_2 g n (upA a 12 (upd (a 12) (x1 : Int32).toNatClampNeg (((1 : Int32) <<< ((g 0) &&& 31)) - 1))) (x1 + 1))) := rfl
def f_X12_findsLeft (g : xG) (a : xA) : Option (xA) := f_X12_findsLeft_2 g fu a 0
set_option maxRecDepth 100000 in
set_option maxHeartbeats 40000000 in
theorem c_X12_findsLeft (l : Launch) (E : xE) (g : xG) (a : xA) {res : xA} (hf : f_X12_findsLeft g a = some res) : xM l E yX12_findsLeft cX12_findsLeft 6 none 4 100 [.ref (E.2.1 0)] (wM E g a) (xQv E (wM E g res)) := by
  unfold f_X12_findsLeft at hf
  refine xM_of (by decide) (Nat.le_of_ble_eq_true rfl) ?_
  intro p e s m below meth c A hx hb hr hml hts hown hlocks hA hD hP hK hN hS ls hl
  have hw : ∀ w ∈ BW, w.before _ s = true := fun w h => hts w (List.mem_cons_of_mem _ h)
  have C0 : xCtx E p m c cX12_findsLeft 6 s _ RX12 A yX12_findsLeft cX12_findsLeft 6 none := ⟨hx, hb, hml, hown, hts, hA, hK, hN⟩
  have hl : lv_has ls 6 [(0, .ref (E.2.1 0))] := hl
  have B40 : ∀ (K32 : xA → Int32 → Option (xA)) (hK32 : ∀ (a : xA) (x1 : Int32) (H : Heap) (locs : List Loc) (ls : Array Slot), va_P E.1 vwCl (wM E g a) H → va_S A s.heap H locs → lv_has ls 6 [(0, .ref (E.2.1 0)), (1, .int x1)] → K32 a x1 = some res → W p l e ({ frames := 4, cells := 0, slots := 0, locals := 100 }) s m ([.ref (E.2.1 0)] : List Value).toArray below meth c H locs 0 0 (MQ below ((xQv E (wM E g res)) A) ([.ref (E.2.1 0)] : List Value).toArray s 0 0 A) (F0 m 32 ls [])) (n : Nat) (a : xA) (x1 : Int32) (x2 : Int32) (H : Heap) (locs : List Loc) (ls : Array Slot), va_P E.1 vwCl (wM E g a) H → va_S A s.heap H locs → lv_has ls 6 [(0, .ref (E.2.1 0)), (1, .int x1), (2, .int x2)] → f_X12_findsLeft_40 g K32 n a x1 x2 = some res → W p l e ({ frames := 4, cells := 0, slots := 0, locals := 100 }) s m ([.ref (E.2.1 0)] : List Value).toArray below meth c H locs 0 0 (MQ below ((xQv E (wM E g res)) A) ([.ref (E.2.1 0)] : List Value).toArray s 0 0 A) (F0 m 40 ls []) := by
    intro K32 hK32 n
    induction n with
    | zero => intro a x1 x2 H locs ls hP hS hl hf; exact absurd (show (none : Option (xA)) = some res from hf) (by intro h; cases h)
    | succ n ih =>
      intro a x1 x2 H locs ls hP hS hl hf
      replace hf := (e_X12_findsLeft_40 g K32 n a x1 x2).symm.trans hf
      refine lv_iload_n hx hb dX12_findsLeft_40 rfl (lv_at hl 2 rfl) ?_
      refine lv_aload_n hx hb dX12_findsLeft_41 rfl (lv_at hl 0 rfl) ?_
      refine va_get (C := RX12) (T := TX12) (N := 22) hx hb hw bfX120 hown hK hP 0 (gm_0 E g a) rfl 15 (by decide) (hw _ bw784) (fun _ h9 => h9) rfl dX12_findsLeft_42 ?_
      refine lv_aload_n hx hb dX12_findsLeft_45 rfl (lv_at hl 0 rfl) ?_
      refine va_get (C := RX12) (T := TX12) (N := 22) hx hb hw bfX120 hown hK hP 0 (gm_0 E g a) rfl 14 (by decide) (hw _ bw764) (fun _ h9 => h9) rfl dX12_findsLeft_46 ?_
      refine lv_imul hx hb dX12_findsLeft_49 ?_
      refine lv_aload_n hx hb dX12_findsLeft_50 rfl (lv_at hl 0 rfl) ?_
      refine va_get (C := RX12) (T := TX12) (N := 22) hx hb hw bfX120 hown hK hP 0 (gm_0 E g a) rfl 0 (by decide) (hw _ bw755) (fun _ h9 => h9) rfl dX12_findsLeft_51 ?_
      refine lv_imul hx hb dX12_findsLeft_54 ?_
      refine lv_icmp_ge (tgt := 152) hx hb dX12_findsLeft_55 (by decide) (fun c4 => ?_) (fun c4 => ?_)
      · replace hf := (if_pos c4).symm.trans hf
        refine lv_goto (tgt := 32) hx hb dX12_findsLeft_152 (by decide) ?_
        exact hK32 a x1 _ _ _ hP hS (lv_sub hl [0, 1] rfl) hf
      · replace hf := (if_neg c4).symm.trans hf
        refine lv_iload_n hx hb dX12_findsLeft_58 rfl (lv_at hl 2 rfl) ?_
        refine lv_aload_n hx hb dX12_findsLeft_59 rfl (lv_at hl 0 rfl) ?_
        refine va_get (C := RX12) (T := TX12) (N := 22) hx hb hw bfX120 hown hK hP 0 (gm_0 E g a) rfl 0 (by decide) (hw _ bw755) (fun _ h9 => h9) rfl dX12_findsLeft_60 ?_
        obtain ⟨k5, hf⟩ := ck_some hf
        refine lv_idiv hx hb dX12_findsLeft_63 (nzB_nz k5) ?_
        refine lv_aload_n hx hb dX12_findsLeft_64 rfl (lv_at hl 0 rfl) ?_
        refine va_get (C := RX12) (T := TX12) (N := 22) hx hb hw bfX120 hown hK hP 0 (gm_0 E g a) rfl 14 (by decide) (hw _ bw764) (fun _ h9 => h9) rfl dX12_findsLeft_65 ?_
        obtain ⟨k6, hf⟩ := ck_some hf
        refine lv_idiv hx hb dX12_findsLeft_68 (nzB_nz k6) ?_
        refine lv_istore_n (lv' := [(3, .int ((x2 / (g 0)) / (g 6))), (0, .ref (E.2.1 0)), (1, .int x1), (2, .int x2)]) hx hb dX12_findsLeft_69 rfl hl (by decide) rfl (fun ls hl => ?_)
        refine lv_iload_n hx hb dX12_findsLeft_70 rfl (lv_at hl 3 rfl) ?_
        refine lv_aload_n hx hb dX12_findsLeft_71 rfl (lv_at hl 1 rfl) ?_
        refine va_get (C := RX12) (T := TX12) (N := 22) hx hb hw bfX120 hown hK hP 0 (gm_0 E g a) rfl 0 (by decide) (hw _ bw755) (fun _ h9 => h9) rfl dX12_findsLeft_72 ?_
        obtain ⟨k7, hf⟩ := ck_some hf
        refine lv_idiv hx hb dX12_findsLeft_75 (nzB_nz k7) ?_
        refine lv_aload_n hx hb dX12_findsLeft_76 rfl (lv_at hl 1 rfl) ?_
        refine va_get (C := RX12) (T := TX12) (N := 22) hx hb hw bfX120 hown hK hP 0 (gm_0 E g a) rfl 14 (by decide) (hw _ bw764) (fun _ h9 => h9) rfl dX12_findsLeft_77 ?_
        obtain ⟨k8, hf⟩ := ck_some hf
        refine lv_irem hx hb dX12_findsLeft_80 (nzB_nz k8) ?_
        refine lv_istore (lv' := [(4, .int ((x2 / (g 0)) - (x2 / (g 0)) / (g 6) * (g 6))), (3, .int ((x2 / (g 0)) / (g 6))), (0, .ref (E.2.1 0)), (1, .int x1), (2, .int x2)]) hx hb dX12_findsLeft_81 hl (by decide) rfl (fun ls hl => ?_)
        refine lv_iload_n hx hb dX12_findsLeft_83 rfl (lv_at hl 4 rfl) ?_
        refine lv_aload_n hx hb dX12_findsLeft_84 rfl (lv_at hl 2 rfl) ?_
        refine va_get (C := RX12) (T := TX12) (N := 22) hx hb hw bfX120 hown hK hP 0 (gm_0 E g a) rfl 0 (by decide) (hw _ bw755) (fun _ h9 => h9) rfl dX12_findsLeft_85 ?_
        obtain ⟨k9, hf⟩ := ck_some hf
        refine lv_irem hx hb dX12_findsLeft_88 (nzB_nz k9) ?_
        refine lv_istore (lv' := [(5, .int (x2 - x2 / (g 0) * (g 0))), (4, .int ((x2 / (g 0)) - (x2 / (g 0)) / (g 6) * (g 6))), (3, .int ((x2 / (g 0)) / (g 6))), (0, .ref (E.2.1 0)), (1, .int x1), (2, .int x2)]) hx hb dX12_findsLeft_89 hl (by decide) rfl (fun ls hl => ?_)
        refine lv_aload_n hx hb dX12_findsLeft_91 rfl (lv_at hl 3 rfl) ?_
        refine va_get (C := RX12) (T := TX12) (N := 22) hx hb hw bfX120 hown hK hP 0 (gm_0 E g a) rfl 19 (by decide) (hw _ bw768) (fun _ h9 => h9) rfl dX12_findsLeft_92 ?_
        refine lv_iload hx hb dX12_findsLeft_95 (lv_at hl 1 rfl) ?_
        obtain ⟨k10, hf⟩ := ck_some hf
        refine va_iald hx hb hK hP 12 0 (gm_12 E g a) rfl (inB_in k10) dX12_findsLeft_97 ?_
        refine lv_iload hx hb dX12_findsLeft_98 (lv_at hl 0 rfl) ?_
        refine xci (xRunS (rest := []) (As := [.int (a 12 (((x2 / (g 0)) - (x2 / (g 0)) / (g 6) * (g 6)) : Int32).toNatClampNeg), .int (x2 - x2 / (g 0) * (g 0))]) (k := 2) C0 (c_X12_isIn l E g a (a 12 (((x2 / (g 0)) - (x2 / (g 0)) / (g 6) * (g 6)) : Int32).toNatClampNeg) (x2 - x2 / (g 0) * (g 0))) bw779 bw793 bw778 bw794 hd_X12_isIn ⟨Nat.le_of_ble_eq_true rfl, Nat.le_of_ble_eq_true rfl⟩ hP (wM_D hD) hS rfl hl.1 rfl (Nat.le_of_ble_eq_true rfl) dX12_findsLeft_100 ⟨Nat.zero_le _, Nat.zero_le _⟩) hS (fun H locs hP hS => ?_)
        refine lv_if_eq (tgt := 146) hx hb dX12_findsLeft_103 (by decide) (fun c11 => ?_) (fun c11 => ?_)
        · replace hf := (if_pos c11).symm.trans hf
          refine lv_iinc (v := (x2 + 1)) (lv' := [(2, .int (x2 + 1)), (5, .int (x2 - x2 / (g 0) * (g 0))), (4, .int ((x2 / (g 0)) - (x2 / (g 0)) / (g 6) * (g 6))), (3, .int ((x2 / (g 0)) / (g 6))), (0, .ref (E.2.1 0)), (1, .int x1)]) hx hb dX12_findsLeft_146 hl (k := 5) rfl rfl (by decide) rfl (fun ls hl => ?_)
          refine lv_goto (tgt := 40) hx hb dX12_findsLeft_149 (by decide) ?_
          exact ih a x1 (x2 + 1) _ _ _ hP hS (lv_sub hl [4, 5, 0] rfl) hf
        · replace hf := (if_neg c11).symm.trans hf
          refine lv_aload_n hx hb dX12_findsLeft_106 rfl (lv_at hl 3 rfl) ?_
          refine lv_iload_n hx hb dX12_findsLeft_107 rfl (lv_at hl 2 rfl) ?_
          refine lv_iload hx hb dX12_findsLeft_108 (lv_at hl 1 rfl) ?_
          obtain ⟨u12, e13, hf⟩ := bd_some hf
          refine xci (xRunV (rest := []) (As := [.int ((x2 / (g 0)) / (g 6)), .int ((x2 / (g 0)) - (x2 / (g 0)) / (g 6) * (g 6))]) (C := RX12) (k := 2) C0 (c_X12_concerns l E g a ((x2 / (g 0)) / (g 6)) ((x2 / (g 0)) - (x2 / (g 0)) / (g 6) * (g 6)) e13) bw973 bw974 bw778 bw975 bw976 hd_X12_concerns ⟨Nat.le_of_ble_eq_true rfl, Nat.le_of_ble_eq_true rfl⟩ hP (wM_D hD) hS (va_recv hK hP (ci := 12) rfl (gm_0 E g a)) rfl hl.1 rfl (Nat.le_of_ble_eq_true rfl) dX12_findsLeft_110 ⟨Nat.zero_le _, Nat.zero_le _⟩) hS (fun H locs hP hS => ?_)
          refine lv_if_eq (tgt := 146) hx hb dX12_findsLeft_113 (by decide) (fun c14 => ?_) (fun c14 => ?_)
          · replace hf := (if_pos c14).symm.trans hf
            refine lv_iinc (v := (x2 + 1)) (lv' := [(2, .int (x2 + 1)), (5, .int (x2 - x2 / (g 0) * (g 0))), (4, .int ((x2 / (g 0)) - (x2 / (g 0)) / (g 6) * (g 6))), (3, .int ((x2 / (g 0)) / (g 6))), (0, .ref (E.2.1 0)), (1, .int x1)]) hx hb dX12_findsLeft_146 hl (k := 5) rfl rfl (by decide) rfl (fun ls hl => ?_)
            refine lv_goto (tgt := 40) hx hb dX12_findsLeft_149 (by decide) ?_
            exact ih a x1 (x2 + 1) _ _ _ hP hS (lv_sub hl [4, 5, 0] rfl) hf
          · replace hf := (if_neg c14).symm.trans hf
            refine lv_aload_n hx hb dX12_findsLeft_116 rfl (lv_at hl 3 rfl) ?_
            refine lv_iload_n hx hb dX12_findsLeft_117 rfl (lv_at hl 2 rfl) ?_
            refine lv_iload hx hb dX12_findsLeft_118 (lv_at hl 1 rfl) ?_
            refine lv_iload hx hb dX12_findsLeft_120 (lv_at hl 0 rfl) ?_
            obtain ⟨u15, e16, hf⟩ := bd_some hf
            refine xci (xRunV (rest := []) (As := [.int ((x2 / (g 0)) / (g 6)), .int ((x2 / (g 0)) - (x2 / (g 0)) / (g 6) * (g 6)), .int (x2 - x2 / (g 0) * (g 0))]) (C := RX12) (k := 3) C0 (c_X12_isHeld l E g a ((x2 / (g 0)) / (g 6)) ((x2 / (g 0)) - (x2 / (g 0)) / (g 6) * (g 6)) (x2 - x2 / (g 0) * (g 0)) e16) bw969 bw977 bw778 bw978 bw979 hd_X12_isHeld ⟨Nat.le_of_ble_eq_true rfl, Nat.le_of_ble_eq_true rfl⟩ hP (wM_D hD) hS (va_recv hK hP (ci := 12) rfl (gm_0 E g a)) rfl hl.1 rfl (Nat.le_of_ble_eq_true rfl) dX12_findsLeft_122 ⟨Nat.zero_le _, Nat.zero_le _⟩) hS (fun H locs hP hS => ?_)
            refine lv_if_ne (tgt := 146) hx hb dX12_findsLeft_125 (by decide) (fun c17 => ?_) (fun c17 => ?_)
            · replace hf := (if_neg c17).symm.trans hf
              refine lv_iinc (v := (x2 + 1)) (lv' := [(2, .int (x2 + 1)), (5, .int (x2 - x2 / (g 0) * (g 0))), (4, .int ((x2 / (g 0)) - (x2 / (g 0)) / (g 6) * (g 6))), (3, .int ((x2 / (g 0)) / (g 6))), (0, .ref (E.2.1 0)), (1, .int x1)]) hx hb dX12_findsLeft_146 hl (k := 5) rfl rfl (by decide) rfl (fun ls hl => ?_)
              refine lv_goto (tgt := 40) hx hb dX12_findsLeft_149 (by decide) ?_
              exact ih a x1 (x2 + 1) _ _ _ hP hS (lv_sub hl [4, 5, 0] rfl) hf
            · replace hf := (if_pos c17).symm.trans hf
              refine lv_aload_n hx hb dX12_findsLeft_128 rfl (lv_at hl 3 rfl) ?_
              refine va_get (C := RX12) (T := TX12) (N := 22) hx hb hw bfX120 hown hK hP 0 (gm_0 E g a) rfl 19 (by decide) (hw _ bw768) (fun _ h9 => h9) rfl dX12_findsLeft_129 ?_
              refine lv_iload hx hb dX12_findsLeft_132 (lv_at hl 1 rfl) ?_
              refine lv_dup2_11 hx hb dX12_findsLeft_134 rfl rfl ?_
              obtain ⟨k18, hf⟩ := ck_some hf
              refine va_iald hx hb hK hP 12 0 (gm_12 E g a) rfl (inB_in k18) dX12_findsLeft_135 ?_
              refine lv_iconst (v := 1) hx hb dX12_findsLeft_136 (by decide) ?_
              refine lv_iload hx hb dX12_findsLeft_137 (lv_at hl 0 rfl) ?_
              refine lv_ishl hx hb dX12_findsLeft_139 ?_
              refine lv_iconst (v := (-1)) hx hb dX12_findsLeft_140 (by decide) ?_
              refine lv_ixor hx hb dX12_findsLeft_141 ?_
              refine lv_iand hx hb dX12_findsLeft_142 ?_
              obtain ⟨k19, hf⟩ := ck_some hf
              refine va_iast hx hb hK hP (wM_D hD) hS 12 0 (gm_12 E g a) rfl (inB_in k19) dX12_findsLeft_143 (fun H locs hP _ hS => ?_)
              have hP := xP_eq (sm_a12 E g a (upd (a 12) (((x2 / (g 0)) - (x2 / (g 0)) / (g 6) * (g 6)) : Int32).toNatClampNeg ((a 12 (((x2 / (g 0)) - (x2 / (g 0)) / (g 6) * (g 6)) : Int32).toNatClampNeg) &&& (((1 : Int32) <<< ((x2 - x2 / (g 0) * (g 0)) &&& 31)) ^^^ (-1))))) hP
              refine lv_iconst (v := 1) hx hb dX12_findsLeft_144 (by decide) ?_
              refine lv_istore_n (lv' := [(1, .int 1), (5, .int (x2 - x2 / (g 0) * (g 0))), (4, .int ((x2 / (g 0)) - (x2 / (g 0)) / (g 6) * (g 6))), (3, .int ((x2 / (g 0)) / (g 6))), (0, .ref (E.2.1 0)), (2, .int x2)]) hx hb dX12_findsLeft_145 rfl hl (by decide) rfl (fun ls hl => ?_)
              refine lv_iinc (v := (x2 + 1)) (lv' := [(2, .int (x2 + 1)), (1, .int 1), (5, .int (x2 - x2 / (g 0) * (g 0))), (4, .int ((x2 / (g 0)) - (x2 / (g 0)) / (g 6) * (g 6))), (3, .int ((x2 / (g 0)) / (g 6))), (0, .ref (E.2.1 0))]) hx hb dX12_findsLeft_146 hl (k := 5) rfl rfl (by decide) rfl (fun ls hl => ?_)
              refine lv_goto (tgt := 40) hx hb dX12_findsLeft_149 (by decide) ?_
              exact ih (upA a 12 (upd (a 12) (((x2 / (g 0)) - (x2 / (g 0)) / (g 6) * (g 6)) : Int32).toNatClampNeg ((a 12 (((x2 / (g 0)) - (x2 / (g 0)) / (g 6) * (g 6)) : Int32).toNatClampNeg) &&& (((1 : Int32) <<< ((x2 - x2 / (g 0) * (g 0)) &&& 31)) ^^^ (-1))))) 1 (x2 + 1) _ _ _ hP hS (lv_sub hl [5, 1, 0] rfl) hf
  have B32 : ∀ (n : Nat) (a : xA) (x1 : Int32) (H : Heap) (locs : List Loc) (ls : Array Slot), va_P E.1 vwCl (wM E g a) H → va_S A s.heap H locs → lv_has ls 6 [(0, .ref (E.2.1 0)), (1, .int x1)] → f_X12_findsLeft_32 g n a x1 = some res → W p l e ({ frames := 4, cells := 0, slots := 0, locals := 100 }) s m ([.ref (E.2.1 0)] : List Value).toArray below meth c H locs 0 0 (MQ below ((xQv E (wM E g res)) A) ([.ref (E.2.1 0)] : List Value).toArray s 0 0 A) (F0 m 32 ls []) := by
    intro n
    induction n with
    | zero => intro a x1 H locs ls hP hS hl hf; exact absurd (show (none : Option (xA)) = some res from hf) (by intro h; cases h)
    | succ n ih =>
      intro a x1 H locs ls hP hS hl hf
      replace hf := (e_X12_findsLeft_32 g n a x1).symm.trans hf
      refine lv_iload_n hx hb dX12_findsLeft_32 rfl (lv_at hl 1 rfl) ?_
      refine lv_if_eq (tgt := 155) hx hb dX12_findsLeft_33 (by decide) (fun c3 => ?_) (fun c3 => ?_)
      · replace hf := (if_pos c3).symm.trans hf
        exact xv_retS (fw := (fun r => wM E g r)) hx hb hr hlocks (Option.some.inj hf) hP hS dX12_findsLeft_155
      · replace hf := (if_neg c3).symm.trans hf
        refine lv_iconst (v := 0) hx hb dX12_findsLeft_36 (by decide) ?_
        refine lv_istore_n (lv' := [(1, .int 0), (0, .ref (E.2.1 0))]) hx hb dX12_findsLeft_37 rfl hl (by decide) rfl (fun ls hl => ?_)
        refine lv_iconst (v := 0) hx hb dX12_findsLeft_38 (by decide) ?_
        refine lv_istore_n (lv' := [(2, .int 0), (1, .int 0), (0, .ref (E.2.1 0))]) hx hb dX12_findsLeft_39 rfl hl (by decide) rfl (fun ls hl => ?_)
        exact B40 (f_X12_findsLeft_32 g n) ih fu a 0 0 _ _ _ hP hS (lv_sub hl [2, 1, 0] rfl) hf
  have B2 : ∀ (n : Nat) (a : xA) (x1 : Int32) (H : Heap) (locs : List Loc) (ls : Array Slot), va_P E.1 vwCl (wM E g a) H → va_S A s.heap H locs → lv_has ls 6 [(0, .ref (E.2.1 0)), (1, .int x1)] → f_X12_findsLeft_2 g n a x1 = some res → W p l e ({ frames := 4, cells := 0, slots := 0, locals := 100 }) s m ([.ref (E.2.1 0)] : List Value).toArray below meth c H locs 0 0 (MQ below ((xQv E (wM E g res)) A) ([.ref (E.2.1 0)] : List Value).toArray s 0 0 A) (F0 m 2 ls []) := by
    intro n
    induction n with
    | zero => intro a x1 H locs ls hP hS hl hf; exact absurd (show (none : Option (xA)) = some res from hf) (by intro h; cases h)
    | succ n ih =>
      intro a x1 H locs ls hP hS hl hf
      replace hf := (e_X12_findsLeft_2 g n a x1).symm.trans hf
      refine lv_iload_n hx hb dX12_findsLeft_2 rfl (lv_at hl 1 rfl) ?_
      refine lv_aload_n hx hb dX12_findsLeft_3 rfl (lv_at hl 0 rfl) ?_
      refine va_get (C := RX12) (T := TX12) (N := 22) hx hb hw bfX120 hown hK hP 0 (gm_0 E g a) rfl 14 (by decide) (hw _ bw764) (fun _ h9 => h9) rfl dX12_findsLeft_4 ?_
      refine lv_icmp_ge (tgt := 30) hx hb dX12_findsLeft_7 (by decide) (fun c1 => ?_) (fun c1 => ?_)
      · replace hf := (if_pos c1).symm.trans hf
        refine lv_iconst (v := 1) hx hb dX12_findsLeft_30 (by decide) ?_
        refine lv_istore_n (lv' := [(1, .int 1), (0, .ref (E.2.1 0))]) hx hb dX12_findsLeft_31 rfl hl (by decide) rfl (fun ls hl => ?_)
        exact B32 fu a 1 _ _ _ hP hS (lv_sub hl [1, 0] rfl) hf
      · replace hf := (if_neg c1).symm.trans hf
        refine lv_aload_n hx hb dX12_findsLeft_10 rfl (lv_at hl 0 rfl) ?_
        refine va_get (C := RX12) (T := TX12) (N := 22) hx hb hw bfX120 hown hK hP 0 (gm_0 E g a) rfl 19 (by decide) (hw _ bw768) (fun _ h9 => h9) rfl dX12_findsLeft_11 ?_
        refine lv_iload_n hx hb dX12_findsLeft_14 rfl (lv_at hl 1 rfl) ?_
        refine lv_iconst (v := 1) hx hb dX12_findsLeft_15 (by decide) ?_
        refine lv_aload_n hx hb dX12_findsLeft_16 rfl (lv_at hl 0 rfl) ?_
        refine va_get (C := RX12) (T := TX12) (N := 22) hx hb hw bfX120 hown hK hP 0 (gm_0 E g a) rfl 0 (by decide) (hw _ bw755) (fun _ h9 => h9) rfl dX12_findsLeft_17 ?_
        refine lv_ishl hx hb dX12_findsLeft_20 ?_
        refine lv_iconst (v := 1) hx hb dX12_findsLeft_21 (by decide) ?_
        refine lv_isub hx hb dX12_findsLeft_22 ?_
        obtain ⟨k2, hf⟩ := ck_some hf
        refine va_iast hx hb hK hP (wM_D hD) hS 12 0 (gm_12 E g a) rfl (inB_in k2) dX12_findsLeft_23 (fun H locs hP _ hS => ?_)
        have hP := xP_eq (sm_a12 E g a (upd (a 12) (x1 : Int32).toNatClampNeg (((1 : Int32) <<< ((g 0) &&& 31)) - 1))) hP
        refine lv_iinc (v := (x1 + 1)) (lv' := [(1, .int (x1 + 1)), (0, .ref (E.2.1 0))]) hx hb dX12_findsLeft_24 hl (k := 1) rfl rfl (by decide) rfl (fun ls hl => ?_)
        refine lv_goto (tgt := 2) hx hb dX12_findsLeft_27 (by decide) ?_
        exact ih (upA a 12 (upd (a 12) (x1 : Int32).toNatClampNeg (((1 : Int32) <<< ((g 0) &&& 31)) - 1))) (x1 + 1) _ _ _ hP hS (lv_sub hl [1, 0] rfl) hf
  refine lv_iconst (v := 0) hx hb dX12_findsLeft_0 (by decide) ?_
  refine lv_istore_n (lv' := [(1, .int 0), (0, .ref (E.2.1 0))]) hx hb dX12_findsLeft_1 rfl hl (by decide) rfl (fun ls hl => ?_)
  exact B2 fu a 0 _ _ _ hP hS (lv_sub hl [1, 0] rfl) hf
def f_X12_left_20 (g : xG) (a : xA) (x1 : Int32) (s0 : Int32) : Option (Int32 × xG × xA) := (if ((upd g 8 s0) 8) ≤ 0 then Option.bind (f_X12_findsLeft (upd g 8 s0) a) (fun u3 => ck (inB x1 6) (some ((u3 12 (x1 : Int32).toNatClampNeg), (upd g 8 s0), u3))) else some (0, (upd g 8 s0), a))
def f_X12_left (g : xG) (a : xA) (v1 : Int32) : Option (Int32 × xG × xA) := (if (t_X12_in g a v1 0 ((g 6) - 1)) = 0 then f_X12_left_20 g a v1 1 else f_X12_left_20 g a v1 0)
set_option maxRecDepth 100000 in
set_option maxHeartbeats 40000000 in
theorem c_X12_left (l : Launch) (E : xE) (g : xG) (a : xA) (v1 : Int32) {res : Int32 × xG × xA} (hf : f_X12_left g a v1 = some res) : xM l E yX12_left cX12_left 2 (some .int) 5 125 [.ref (E.2.1 0), .int v1] (wM E g a) (xQi E res.1 (wM E res.2.1 res.2.2)) := by
  unfold f_X12_left at hf
  refine xM_of (by decide) (Nat.le_of_ble_eq_true rfl) ?_
  intro p e s m below meth c A hx hb hr hml hts hown hlocks hA hD hP hK hN hS ls hl
  have hw : ∀ w ∈ BW, w.before _ s = true := fun w h => hts w (List.mem_cons_of_mem _ h)
  have C0 : xCtx E p m c cX12_left 2 s _ RX12 A yX12_left cX12_left 2 (some .int) := ⟨hx, hb, hml, hown, hts, hA, hK, hN⟩
  have hl : lv_has ls 2 [(0, .ref (E.2.1 0)), (1, .int v1)] := hl
  have B20 : ∀ (g : xG) (a : xA) (x1 : Int32) (s0 : Int32) (H : Heap) (locs : List Loc) (ls : Array Slot), va_P E.1 vwCl (wM E g a) H → va_S A s.heap H locs → lv_has ls 2 [(0, .ref (E.2.1 0)), (1, .int x1)] → f_X12_left_20 g a x1 s0 = some res → W p l e ({ frames := 5, cells := 0, slots := 0, locals := 125 }) s m ([.ref (E.2.1 0), .int v1] : List Value).toArray below meth c H locs 0 0 (MQ below ((xQi E res.1 (wM E res.2.1 res.2.2)) A) ([.ref (E.2.1 0), .int v1] : List Value).toArray s 0 0 A) (F0 m 20 ls [.int s0, .ref (E.2.1 0)]) := by
    intro g a x1 s0 H locs ls hP hS hl hf
    unfold f_X12_left_20 at hf
    refine va_put (v := .int s0) (ty := .int) (C := RX12) (T := TX12) (N := 22) hx hb hw bfX120 tyX12 tyX12_ok nmX12 hown hK hP (wM_D hD) hS 0 (gm_0 E g a) rfl 21 (by decide) (hw _ bw771) (fun _ h9 => h9) rfl (by decide +kernel) rfl rfl (Nat.le_of_ble_eq_true rfl) dX12_left_20 (fun H locs hP _ hS => ?_)
    have hP := xP_eq (sm_g8 E g a s0) hP
    refine lv_aload_n hx hb dX12_left_23 rfl (lv_at hl 0 rfl) ?_
    refine va_get (C := RX12) (T := TX12) (N := 22) hx hb hw bfX120 hown hK hP 0 (gm_0 E (upd g 8 s0) a) rfl 21 (by decide) (hw _ bw771) (fun _ h9 => h9) rfl dX12_left_24 ?_
    refine lv_if_le (tgt := 32) hx hb dX12_left_27 (by decide) (fun c2 => ?_) (fun c2 => ?_)
    · replace hf := (if_pos c2).symm.trans hf
      refine lv_aload_n hx hb dX12_left_32 rfl (lv_at hl 0 rfl) ?_
      obtain ⟨u3, e4, hf⟩ := bd_some hf
      refine xcv (xRunV (rest := []) (As := []) (C := RX12) (k := 0) C0 (c_X12_findsLeft l E (upd g 8 s0) a e4) bw980 bw981 bw778 bw982 bw983 hd_X12_findsLeft ⟨Nat.le_of_ble_eq_true rfl, Nat.le_of_ble_eq_true rfl⟩ hP (wM_D hD) hS (va_recv hK hP (ci := 12) rfl (gm_0 E (upd g 8 s0) a)) rfl hl.1 rfl (Nat.le_of_ble_eq_true rfl) dX12_left_33 ⟨Nat.zero_le _, Nat.zero_le _⟩) hS (fun H locs hP hS => ?_)
      refine lv_aload_n hx hb dX12_left_36 rfl (lv_at hl 0 rfl) ?_
      refine va_get (C := RX12) (T := TX12) (N := 22) hx hb hw bfX120 hown hK hP 0 (gm_0 E (upd g 8 s0) u3) rfl 19 (by decide) (hw _ bw768) (fun _ h9 => h9) rfl dX12_left_37 ?_
      refine lv_iload_n hx hb dX12_left_40 rfl (lv_at hl 1 rfl) ?_
      obtain ⟨k5, hf⟩ := ck_some hf
      refine va_iald hx hb hK hP 12 0 (gm_12 E (upd g 8 s0) u3) rfl (inB_in k5) dX12_left_41 ?_
      exact xi_retS (fr := (fun r => r.1)) (fw := (fun r => wM E r.2.1 r.2.2)) hx hb hr hlocks (Option.some.inj hf) hP hS dX12_left_42
    · replace hf := (if_neg c2).symm.trans hf
      refine lv_iconst (v := 0) hx hb dX12_left_30 (by decide) ?_
      exact xi_retS (fr := (fun r => r.1)) (fw := (fun r => wM E r.2.1 r.2.2)) hx hb hr hlocks (Option.some.inj hf) hP hS dX12_left_31
  refine lv_aload_n hx hb dX12_left_0 rfl (lv_at hl 0 rfl) ?_
  refine lv_iload_n hx hb dX12_left_1 rfl (lv_at hl 1 rfl) ?_
  refine lv_iconst (v := 0) hx hb dX12_left_2 (by decide) ?_
  refine lv_aload_n hx hb dX12_left_3 rfl (lv_at hl 0 rfl) ?_
  refine va_get (C := RX12) (T := TX12) (N := 22) hx hb hw bfX120 hown hK hP 0 (gm_0 E g a) rfl 14 (by decide) (hw _ bw764) (fun _ h9 => h9) rfl dX12_left_4 ?_
  refine lv_iconst (v := 1) hx hb dX12_left_7 (by decide) ?_
  refine lv_isub hx hb dX12_left_8 ?_
  refine xci (xRunS (rest := [.ref (E.2.1 0)]) (As := [.int v1, .int 0, .int ((g 6) - 1)]) (k := 3) C0 (c_X12_in l E g a v1 0 ((g 6) - 1)) bw772 bw785 bw778 bw786 hd_X12_in ⟨Nat.le_of_ble_eq_true rfl, Nat.le_of_ble_eq_true rfl⟩ hP (wM_D hD) hS rfl hl.1 rfl (Nat.le_of_ble_eq_true rfl) dX12_left_9 ⟨Nat.zero_le _, Nat.zero_le _⟩) hS (fun H locs hP hS => ?_)
  refine lv_if_eq (tgt := 19) hx hb dX12_left_12 (by decide) (fun c1 => ?_) (fun c1 => ?_)
  · replace hf := (if_pos c1).symm.trans hf
    refine lv_iconst (v := 1) hx hb dX12_left_19 (by decide) ?_
    exact B20 g a v1 1 _ _ _ hP hS (lv_sub hl [0, 1] rfl) hf
  · replace hf := (if_neg c1).symm.trans hf
    refine lv_iconst (v := 0) hx hb dX12_left_15 (by decide) ?_
    refine lv_goto (tgt := 20) hx hb dX12_left_16 (by decide) ?_
    exact B20 g a v1 0 _ _ _ hP hS (lv_sub hl [0, 1] rfl) hf
def f_X12_canBoth_129 (g : xG) (a : xA) (K6 : Int32 → Int32 → Int32 → Int32 → Int32 → Int32 → Option (Int32)) (K35 : Int32 → Int32 → Int32 → Int32 → Int32 → Int32 → Int32 → Int32 → Option (Int32)) (K69 : Int32 → Int32 → Int32 → Int32 → Int32 → Int32 → Int32 → Int32 → Int32 → Option (Int32)) (x1 : Int32) (x2 : Int32) (x3 : Int32) (x4 : Int32) (x6 : Int32) (x7 : Int32) (x9 : Int32) (x10 : Int32) (s0 : Int32) : Option (Int32) := Option.bind (f_X12_on g a x9 x10) (fun u21 => (if u21 = s0 then K69 x1 x2 x3 x4 x6 x7 1 x9 (x10 + 1) else K69 x1 x2 x3 x4 x6 x7 0 x9 (x10 + 1)))
def f_X12_canBoth_69 (g : xG) (a : xA) (K6 : Int32 → Int32 → Int32 → Int32 → Int32 → Int32 → Option (Int32)) (K35 : Int32 → Int32 → Int32 → Int32 → Int32 → Int32 → Int32 → Int32 → Option (Int32)) : Nat → Int32 → Int32 → Int32 → Int32 → Int32 → Int32 → Int32 → Int32 → Int32 → Option (Int32)
  | 0, _, _, _, _, _, _, _, _, _ => none
  | n + 1, x1, x2, x3, x4, x6, x7, x8, x9, x10 => ck (inB x7 8) ((if (a 1 (x7 : Int32).toNatClampNeg) ≤ x10 then K35 x1 x2 x3 x4 x6 x7 x8 (x9 + 1) else (if x8 = 0 then K35 x1 x2 x3 x4 x6 x7 x8 (x9 + 1) else ck (inB ((3 * x6) + x10) 48) ((if (a 10 (((3 * x6) + x10) : Int32).toNatClampNeg) = x1 then f_X12_canBoth_129 g a K6 K35 (f_X12_canBoth_69 g a K6 K35 n) x1 x2 x3 x4 x6 x7 x9 x10 x2 else (if (a 10 (((3 * x6) + x10) : Int32).toNatClampNeg) = x3 then f_X12_canBoth_129 g a K6 K35 (f_X12_canBoth_69 g a K6 K35 n) x1 x2 x3 x4 x6 x7 x9 x10 x4 else Option.bind (f_X12_on g a x9 x10) (fun u19 => f_X12_canBoth_129 g a K6 K35 (f_X12_canBoth_69 g a K6 K35 n) x1 x2 x3 x4 x6 x7 x9 x10 u19)))))))
theorem e_X12_canBoth_69 (g : xG) (a : xA) (K6 : Int32 → Int32 → Int32 → Int32 → Int32 → Int32 → Option (Int32)) (K35 : Int32 → Int32 → Int32 → Int32 → Int32 → Int32 → Int32 → Int32 → Option (Int32)) (n : Nat) (x1 : Int32) (x2 : Int32) (x3 : Int32) (x4 : Int32) (x6 : Int32) (x7 : Int32) (x8 : Int32) (x9 : Int32) (x10 : Int32) : f_X12_canBoth_69 g a K6 K35 (n + 1) x1 x2 x3 x4 x6 x7 x8 x9 x10 = ck (inB x7 8) ((if (a 1 (x7 : Int32).toNatClampNeg) ≤ x10 then K35 x1 x2 x3 x4 x6 x7 x8 (x9 + 1) else (if x8 = 0 then K35 x1 x2 x3 x4 x6 x7 x8 (x9 + 1) else ck (inB ((3 * x6) + x10) 48) ((if (a 10 (((3 * x6) + x10) : Int32).toNatClampNeg) = x1 then f_X12_canBoth_129 g a K6 K35 (f_X12_canBoth_69 g a K6 K35 n) x1 x2 x3 x4 x6 x7 x9 x10 x2 else (if (a 10 (((3 * x6) + x10) : Int32).toNatClampNeg) = x3 then f_X12_canBoth_129 g a K6 K35 (f_X12_canBoth_69 g a K6 K35 n) x1 x2 x3 x4 x6 x7 x9 x10 x4 else Option.bind (f_X12_on g a x9 x10) (fun u19 => f_X12_canBoth_129 g a K6 K35 (f_X12_canBoth_69 g a K6 K35 n) x1 x2 x3 x4 x6 x7 x9 x10 u19))))))) := rfl
def f_X12_canBoth_35 (g : xG) (a : xA) (K6 : Int32 → Int32 → Int32 → Int32 → Int32 → Int32 → Option (Int32)) : Nat → Int32 → Int32 → Int32 → Int32 → Int32 → Int32 → Int32 → Int32 → Option (Int32)
  | 0, _, _, _, _, _, _, _, _ => none
  | n + 1, x1, x2, x3, x4, x6, x7, x8, x9 => ck (inB x7 8) (Option.bind (f_X12_power g a (a 1 (x7 : Int32).toNatClampNeg)) (fun u7 => (if u7 ≤ x9 then K6 x1 x2 x3 x4 x8 (x6 + 1) else (if x8 = 0 then Option.bind (f_X12_canStand g a x6 x9) (fun u11 => f_X12_canBoth_69 g a K6 (f_X12_canBoth_35 g a K6 n) fu x1 x2 x3 x4 x6 x7 u11 x9 0) else K6 x1 x2 x3 x4 x8 (x6 + 1)))))
theorem e_X12_canBoth_35 (g : xG) (a : xA) (K6 : Int32 → Int32 → Int32 → Int32 → Int32 → Int32 → Option (Int32)) (n : Nat) (x1 : Int32) (x2 : Int32) (x3 : Int32) (x4 : Int32) (x6 : Int32) (x7 : Int32) (x8 : Int32) (x9 : Int32) : f_X12_canBoth_35 g a K6 (n + 1) x1 x2 x3 x4 x6 x7 x8 x9 = ck (inB x7 8) (Option.bind (f_X12_power g a (a 1 (x7 : Int32).toNatClampNeg)) (fun u7 => (if u7 ≤ x9 then K6 x1 x2 x3 x4 x8 (x6 + 1) else (if x8 = 0 then Option.bind (f_X12_canStand g a x6 x9) (fun u11 => f_X12_canBoth_69 g a K6 (f_X12_canBoth_35 g a K6 n) fu x1 x2 x3 x4 x6 x7 u11 x9 0) else K6 x1 x2 x3 x4 x8 (x6 + 1))))) := rfl
def f_X12_canBoth_6 (g : xG) (a : xA) : Nat → Int32 → Int32 → Int32 → Int32 → Int32 → Int32 → Option (Int32)
  | 0, _, _, _, _, _, _ => none
  | n + 1, x1, x2, x3, x4, x5, x6 => (if (g 7) ≤ x6 then ck (boB x5) (some x5) else (if x5 = 0 then ck (boB x5) (some x5) else ck (inB x6 16) (f_X12_canBoth_35 g a (f_X12_canBoth_6 g a n) fu x1 x2 x3 x4 x6 (a 9 (x6 : Int32).toNatClampNeg) 0 0)))
theorem e_X12_canBoth_6 (g : xG) (a : xA) (n : Nat) (x1 : Int32) (x2 : Int32) (x3 : Int32) (x4 : Int32) (x5 : Int32) (x6 : Int32) : f_X12_canBoth_6 g a (n + 1) x1 x2 x3 x4 x5 x6 = (if (g 7) ≤ x6 then ck (boB x5) (some x5) else (if x5 = 0 then ck (boB x5) (some x5) else ck (inB x6 16) (f_X12_canBoth_35 g a (f_X12_canBoth_6 g a n) fu x1 x2 x3 x4 x6 (a 9 (x6 : Int32).toNatClampNeg) 0 0))) := rfl
def f_X12_canBoth (g : xG) (a : xA) (v1 : Int32) (v2 : Int32) (v3 : Int32) (v4 : Int32) : Option (Int32) := f_X12_canBoth_6 g a fu v1 v2 v3 v4 1 0
set_option maxRecDepth 100000 in
set_option maxHeartbeats 40000000 in
theorem c_X12_canBoth (l : Launch) (E : xE) (g : xG) (a : xA) (v1 : Int32) (v2 : Int32) (v3 : Int32) (v4 : Int32) {res : Int32} (hf : f_X12_canBoth g a v1 v2 v3 v4 = some res) : xM l E yX12_canBoth cX12_canBoth 13 (some .boolean) 3 72 [.ref (E.2.1 0), .int v1, .int v2, .int v3, .int v4] (wM E g a) (xQi E res (wM E g a)) := by
  unfold f_X12_canBoth at hf
  refine xM_of (by decide) (Nat.le_of_ble_eq_true rfl) ?_
  intro p e s m below meth c A hx hb hr hml hts hown hlocks hA hD hP hK hN hS ls hl
  have hw : ∀ w ∈ BW, w.before _ s = true := fun w h => hts w (List.mem_cons_of_mem _ h)
  have C0 : xCtx E p m c cX12_canBoth 13 s _ RX12 A yX12_canBoth cX12_canBoth 13 (some .boolean) := ⟨hx, hb, hml, hown, hts, hA, hK, hN⟩
  have hl : lv_has ls 13 [(0, .ref (E.2.1 0)), (1, .int v1), (2, .int v2), (3, .int v3), (4, .int v4)] := hl
  have B129 : ∀ (K6 : Int32 → Int32 → Int32 → Int32 → Int32 → Int32 → Option (Int32)) (hK6 : ∀ (x1 : Int32) (x2 : Int32) (x3 : Int32) (x4 : Int32) (x5 : Int32) (x6 : Int32) (H : Heap) (locs : List Loc) (ls : Array Slot), va_P E.1 vwCl (wM E g a) H → va_S A s.heap H locs → lv_has ls 13 [(0, .ref (E.2.1 0)), (1, .int x1), (2, .int x2), (3, .int x3), (4, .int x4), (5, .int x5), (6, .int x6)] → K6 x1 x2 x3 x4 x5 x6 = some res → W p l e ({ frames := 3, cells := 0, slots := 0, locals := 72 }) s m ([.ref (E.2.1 0), .int v1, .int v2, .int v3, .int v4] : List Value).toArray below meth c H locs 0 0 (MQ below ((xQi E res (wM E g a)) A) ([.ref (E.2.1 0), .int v1, .int v2, .int v3, .int v4] : List Value).toArray s 0 0 A) (F0 m 6 ls [])) (K35 : Int32 → Int32 → Int32 → Int32 → Int32 → Int32 → Int32 → Int32 → Option (Int32)) (hK35 : ∀ (x1 : Int32) (x2 : Int32) (x3 : Int32) (x4 : Int32) (x6 : Int32) (x7 : Int32) (x8 : Int32) (x9 : Int32) (H : Heap) (locs : List Loc) (ls : Array Slot), va_P E.1 vwCl (wM E g a) H → va_S A s.heap H locs → lv_has ls 13 [(0, .ref (E.2.1 0)), (1, .int x1), (2, .int x2), (3, .int x3), (4, .int x4), (6, .int x6), (7, .int x7), (8, .int x8), (9, .int x9)] → K35 x1 x2 x3 x4 x6 x7 x8 x9 = some res → W p l e ({ frames := 3, cells := 0, slots := 0, locals := 72 }) s m ([.ref (E.2.1 0), .int v1, .int v2, .int v3, .int v4] : List Value).toArray below meth c H locs 0 0 (MQ below ((xQi E res (wM E g a)) A) ([.ref (E.2.1 0), .int v1, .int v2, .int v3, .int v4] : List Value).toArray s 0 0 A) (F0 m 35 ls [])) (K69 : Int32 → Int32 → Int32 → Int32 → Int32 → Int32 → Int32 → Int32 → Int32 → Option (Int32)) (hK69 : ∀ (x1 : Int32) (x2 : Int32) (x3 : Int32) (x4 : Int32) (x6 : Int32) (x7 : Int32) (x8 : Int32) (x9 : Int32) (x10 : Int32) (H : Heap) (locs : List Loc) (ls : Array Slot), va_P E.1 vwCl (wM E g a) H → va_S A s.heap H locs → lv_has ls 13 [(0, .ref (E.2.1 0)), (1, .int x1), (2, .int x2), (3, .int x3), (4, .int x4), (6, .int x6), (7, .int x7), (8, .int x8), (9, .int x9), (10, .int x10)] → K69 x1 x2 x3 x4 x6 x7 x8 x9 x10 = some res → W p l e ({ frames := 3, cells := 0, slots := 0, locals := 72 }) s m ([.ref (E.2.1 0), .int v1, .int v2, .int v3, .int v4] : List Value).toArray below meth c H locs 0 0 (MQ below ((xQi E res (wM E g a)) A) ([.ref (E.2.1 0), .int v1, .int v2, .int v3, .int v4] : List Value).toArray s 0 0 A) (F0 m 69 ls [])) (x1 : Int32) (x2 : Int32) (x3 : Int32) (x4 : Int32) (x6 : Int32) (x7 : Int32) (x9 : Int32) (x10 : Int32) (s0 : Int32) (H : Heap) (locs : List Loc) (ls : Array Slot), va_P E.1 vwCl (wM E g a) H → va_S A s.heap H locs → lv_has ls 13 [(0, .ref (E.2.1 0)), (1, .int x1), (2, .int x2), (3, .int x3), (4, .int x4), (6, .int x6), (7, .int x7), (9, .int x9), (10, .int x10)] → f_X12_canBoth_129 g a K6 K35 K69 x1 x2 x3 x4 x6 x7 x9 x10 s0 = some res → W p l e ({ frames := 3, cells := 0, slots := 0, locals := 72 }) s m ([.ref (E.2.1 0), .int v1, .int v2, .int v3, .int v4] : List Value).toArray below meth c H locs 0 0 (MQ below ((xQi E res (wM E g a)) A) ([.ref (E.2.1 0), .int v1, .int v2, .int v3, .int v4] : List Value).toArray s 0 0 A) (F0 m 129 ls [.int s0]) := by
    intro K6 hK6 K35 hK35 K69 hK69 x1 x2 x3 x4 x6 x7 x9 x10 s0 H locs ls hP hS hl hf
    unfold f_X12_canBoth_129 at hf
    refine lv_istore (lv' := [(12, .int s0), (0, .ref (E.2.1 0)), (1, .int x1), (2, .int x2), (3, .int x3), (4, .int x4), (6, .int x6), (7, .int x7), (9, .int x9), (10, .int x10)]) hx hb dX12_canBoth_129 hl (by decide) rfl (fun ls hl => ?_)
    refine lv_aload_n hx hb dX12_canBoth_131 rfl (lv_at hl 1 rfl) ?_
    refine lv_iload hx hb dX12_canBoth_132 (lv_at hl 8 rfl) ?_
    refine lv_iload hx hb dX12_canBoth_134 (lv_at hl 9 rfl) ?_
    obtain ⟨u21, e22, hf⟩ := bd_some hf
    refine xci (xRunV (rest := []) (As := [.int x9, .int x10]) (C := RX12) (k := 2) C0 (c_X12_on l E g a x9 x10 e22) bw774 bw823 bw778 bw824 bw825 hd_X12_on ⟨Nat.le_of_ble_eq_true rfl, Nat.le_of_ble_eq_true rfl⟩ hP (wM_D hD) hS (va_recv hK hP (ci := 12) rfl (gm_0 E g a)) rfl hl.1 rfl (Nat.le_of_ble_eq_true rfl) dX12_canBoth_136 ⟨Nat.zero_le _, Nat.zero_le _⟩) hS (fun H locs hP hS => ?_)
    refine lv_iload hx hb dX12_canBoth_139 (lv_at hl 0 rfl) ?_
    refine lv_icmp_ne (tgt := 148) hx hb dX12_canBoth_141 (by decide) (fun c23 => ?_) (fun c23 => ?_)
    · replace hf := (if_neg c23).symm.trans hf
      refine lv_iconst (v := 0) hx hb dX12_canBoth_148 (by decide) ?_
      refine lv_istore (lv' := [(8, .int 0), (12, .int s0), (0, .ref (E.2.1 0)), (1, .int x1), (2, .int x2), (3, .int x3), (4, .int x4), (6, .int x6), (7, .int x7), (9, .int x9), (10, .int x10)]) hx hb dX12_canBoth_149 hl (by decide) rfl (fun ls hl => ?_)
      refine lv_iinc (v := (x10 + 1)) (lv' := [(10, .int (x10 + 1)), (8, .int 0), (12, .int s0), (0, .ref (E.2.1 0)), (1, .int x1), (2, .int x2), (3, .int x3), (4, .int x4), (6, .int x6), (7, .int x7), (9, .int x9)]) hx hb dX12_canBoth_151 hl (k := 10) rfl rfl (by decide) rfl (fun ls hl => ?_)
      refine lv_goto (tgt := 69) hx hb dX12_canBoth_154 (by decide) ?_
      exact hK69 x1 x2 x3 x4 x6 x7 0 x9 (x10 + 1) _ _ _ hP hS (lv_sub hl [3, 4, 5, 6, 7, 8, 9, 1, 10, 0] rfl) hf
    · replace hf := (if_pos c23).symm.trans hf
      refine lv_iconst (v := 1) hx hb dX12_canBoth_144 (by decide) ?_
      refine lv_goto (tgt := 149) hx hb dX12_canBoth_145 (by decide) ?_
      refine lv_istore (lv' := [(8, .int 1), (12, .int s0), (0, .ref (E.2.1 0)), (1, .int x1), (2, .int x2), (3, .int x3), (4, .int x4), (6, .int x6), (7, .int x7), (9, .int x9), (10, .int x10)]) hx hb dX12_canBoth_149 hl (by decide) rfl (fun ls hl => ?_)
      refine lv_iinc (v := (x10 + 1)) (lv' := [(10, .int (x10 + 1)), (8, .int 1), (12, .int s0), (0, .ref (E.2.1 0)), (1, .int x1), (2, .int x2), (3, .int x3), (4, .int x4), (6, .int x6), (7, .int x7), (9, .int x9)]) hx hb dX12_canBoth_151 hl (k := 10) rfl rfl (by decide) rfl (fun ls hl => ?_)
      refine lv_goto (tgt := 69) hx hb dX12_canBoth_154 (by decide) ?_
      exact hK69 x1 x2 x3 x4 x6 x7 1 x9 (x10 + 1) _ _ _ hP hS (lv_sub hl [3, 4, 5, 6, 7, 8, 9, 1, 10, 0] rfl) hf
  have B69 : ∀ (K6 : Int32 → Int32 → Int32 → Int32 → Int32 → Int32 → Option (Int32)) (hK6 : ∀ (x1 : Int32) (x2 : Int32) (x3 : Int32) (x4 : Int32) (x5 : Int32) (x6 : Int32) (H : Heap) (locs : List Loc) (ls : Array Slot), va_P E.1 vwCl (wM E g a) H → va_S A s.heap H locs → lv_has ls 13 [(0, .ref (E.2.1 0)), (1, .int x1), (2, .int x2), (3, .int x3), (4, .int x4), (5, .int x5), (6, .int x6)] → K6 x1 x2 x3 x4 x5 x6 = some res → W p l e ({ frames := 3, cells := 0, slots := 0, locals := 72 }) s m ([.ref (E.2.1 0), .int v1, .int v2, .int v3, .int v4] : List Value).toArray below meth c H locs 0 0 (MQ below ((xQi E res (wM E g a)) A) ([.ref (E.2.1 0), .int v1, .int v2, .int v3, .int v4] : List Value).toArray s 0 0 A) (F0 m 6 ls [])) (K35 : Int32 → Int32 → Int32 → Int32 → Int32 → Int32 → Int32 → Int32 → Option (Int32)) (hK35 : ∀ (x1 : Int32) (x2 : Int32) (x3 : Int32) (x4 : Int32) (x6 : Int32) (x7 : Int32) (x8 : Int32) (x9 : Int32) (H : Heap) (locs : List Loc) (ls : Array Slot), va_P E.1 vwCl (wM E g a) H → va_S A s.heap H locs → lv_has ls 13 [(0, .ref (E.2.1 0)), (1, .int x1), (2, .int x2), (3, .int x3), (4, .int x4), (6, .int x6), (7, .int x7), (8, .int x8), (9, .int x9)] → K35 x1 x2 x3 x4 x6 x7 x8 x9 = some res → W p l e ({ frames := 3, cells := 0, slots := 0, locals := 72 }) s m ([.ref (E.2.1 0), .int v1, .int v2, .int v3, .int v4] : List Value).toArray below meth c H locs 0 0 (MQ below ((xQi E res (wM E g a)) A) ([.ref (E.2.1 0), .int v1, .int v2, .int v3, .int v4] : List Value).toArray s 0 0 A) (F0 m 35 ls [])) (n : Nat) (x1 : Int32) (x2 : Int32) (x3 : Int32) (x4 : Int32) (x6 : Int32) (x7 : Int32) (x8 : Int32) (x9 : Int32) (x10 : Int32) (H : Heap) (locs : List Loc) (ls : Array Slot), va_P E.1 vwCl (wM E g a) H → va_S A s.heap H locs → lv_has ls 13 [(0, .ref (E.2.1 0)), (1, .int x1), (2, .int x2), (3, .int x3), (4, .int x4), (6, .int x6), (7, .int x7), (8, .int x8), (9, .int x9), (10, .int x10)] → f_X12_canBoth_69 g a K6 K35 n x1 x2 x3 x4 x6 x7 x8 x9 x10 = some res → W p l e ({ frames := 3, cells := 0, slots := 0, locals := 72 }) s m ([.ref (E.2.1 0), .int v1, .int v2, .int v3, .int v4] : List Value).toArray below meth c H locs 0 0 (MQ below ((xQi E res (wM E g a)) A) ([.ref (E.2.1 0), .int v1, .int v2, .int v3, .int v4] : List Value).toArray s 0 0 A) (F0 m 69 ls []) := by
    intro K6 hK6 K35 hK35 n
    induction n with
    | zero => intro x1 x2 x3 x4 x6 x7 x8 x9 x10 H locs ls hP hS hl hf; exact absurd (show (none : Option (Int32)) = some res from hf) (by intro h; cases h)
    | succ n ih =>
      intro x1 x2 x3 x4 x6 x7 x8 x9 x10 H locs ls hP hS hl hf
      replace hf := (e_X12_canBoth_69 g a K6 K35 n x1 x2 x3 x4 x6 x7 x8 x9 x10).symm.trans hf
      refine lv_iload hx hb dX12_canBoth_69 (lv_at hl 9 rfl) ?_
      refine lv_aload_n hx hb dX12_canBoth_71 rfl (lv_at hl 0 rfl) ?_
      refine va_get (C := RX12) (T := TX12) (N := 22) hx hb hw bfX120 hown hK hP 0 (gm_0 E g a) rfl 2 (by decide) (hw _ bw756) (fun _ h9 => h9) rfl dX12_canBoth_72 ?_
      refine lv_iload hx hb dX12_canBoth_75 (lv_at hl 6 rfl) ?_
      obtain ⟨k13, hf⟩ := ck_some hf
      refine va_iald hx hb hK hP 1 0 (gm_1 E g a) rfl (inB_in k13) dX12_canBoth_77 ?_
      refine lv_icmp_ge (tgt := 157) hx hb dX12_canBoth_78 (by decide) (fun c14 => ?_) (fun c14 => ?_)
      · replace hf := (if_pos c14).symm.trans hf
        refine lv_iinc (v := (x9 + 1)) (lv' := [(9, .int (x9 + 1)), (0, .ref (E.2.1 0)), (1, .int x1), (2, .int x2), (3, .int x3), (4, .int x4), (6, .int x6), (7, .int x7), (8, .int x8), (10, .int x10)]) hx hb dX12_canBoth_157 hl (k := 8) rfl rfl (by decide) rfl (fun ls hl => ?_)
        refine lv_goto (tgt := 35) hx hb dX12_canBoth_160 (by decide) ?_
        exact hK35 x1 x2 x3 x4 x6 x7 x8 (x9 + 1) _ _ _ hP hS (lv_sub hl [1, 2, 3, 4, 5, 6, 7, 8, 0] rfl) hf
      · replace hf := (if_neg c14).symm.trans hf
        refine lv_iload hx hb dX12_canBoth_81 (lv_at hl 7 rfl) ?_
        refine lv_if_eq (tgt := 157) hx hb dX12_canBoth_83 (by decide) (fun c15 => ?_) (fun c15 => ?_)
        · replace hf := (if_pos c15).symm.trans hf
          refine lv_iinc (v := (x9 + 1)) (lv' := [(9, .int (x9 + 1)), (0, .ref (E.2.1 0)), (1, .int x1), (2, .int x2), (3, .int x3), (4, .int x4), (6, .int x6), (7, .int x7), (8, .int x8), (10, .int x10)]) hx hb dX12_canBoth_157 hl (k := 8) rfl rfl (by decide) rfl (fun ls hl => ?_)
          refine lv_goto (tgt := 35) hx hb dX12_canBoth_160 (by decide) ?_
          exact hK35 x1 x2 x3 x4 x6 x7 x8 (x9 + 1) _ _ _ hP hS (lv_sub hl [1, 2, 3, 4, 5, 6, 7, 8, 0] rfl) hf
        · replace hf := (if_neg c15).symm.trans hf
          refine lv_aload_n hx hb dX12_canBoth_86 rfl (lv_at hl 0 rfl) ?_
          refine va_get (C := RX12) (T := TX12) (N := 22) hx hb hw bfX120 hown hK hP 0 (gm_0 E g a) rfl 17 (by decide) (hw _ bw766) (fun _ h9 => h9) rfl dX12_canBoth_87 ?_
          refine lv_iconst (v := 3) hx hb dX12_canBoth_90 (by decide) ?_
          refine lv_iload hx hb dX12_canBoth_91 (lv_at hl 5 rfl) ?_
          refine lv_imul hx hb dX12_canBoth_93 ?_
          refine lv_iload hx hb dX12_canBoth_94 (lv_at hl 9 rfl) ?_
          refine lv_iadd hx hb dX12_canBoth_96 ?_
          obtain ⟨k16, hf⟩ := ck_some hf
          refine va_iald hx hb hK hP 10 0 (gm_10 E g a) rfl (inB_in k16) dX12_canBoth_97 ?_
          refine lv_istore (lv' := [(11, .int (a 10 (((3 * x6) + x10) : Int32).toNatClampNeg)), (0, .ref (E.2.1 0)), (1, .int x1), (2, .int x2), (3, .int x3), (4, .int x4), (6, .int x6), (7, .int x7), (8, .int x8), (9, .int x9), (10, .int x10)]) hx hb dX12_canBoth_98 hl (by decide) rfl (fun ls hl => ?_)
          refine lv_iload hx hb dX12_canBoth_100 (lv_at hl 0 rfl) ?_
          refine lv_iload_n hx hb dX12_canBoth_102 rfl (lv_at hl 2 rfl) ?_
          refine lv_icmp_ne (tgt := 110) hx hb dX12_canBoth_103 (by decide) (fun c17 => ?_) (fun c17 => ?_)
          · replace hf := (if_neg c17).symm.trans hf
            refine lv_iload hx hb dX12_canBoth_110 (lv_at hl 0 rfl) ?_
            refine lv_iload_n hx hb dX12_canBoth_112 rfl (lv_at hl 4 rfl) ?_
            refine lv_icmp_ne (tgt := 121) hx hb dX12_canBoth_113 (by decide) (fun c18 => ?_) (fun c18 => ?_)
            · replace hf := (if_neg c18).symm.trans hf
              refine lv_aload_n hx hb dX12_canBoth_121 rfl (lv_at hl 1 rfl) ?_
              refine lv_iload hx hb dX12_canBoth_122 (lv_at hl 9 rfl) ?_
              refine lv_iload hx hb dX12_canBoth_124 (lv_at hl 10 rfl) ?_
              obtain ⟨u19, e20, hf⟩ := bd_some hf
              refine xci (xRunV (rest := []) (As := [.int x9, .int x10]) (C := RX12) (k := 2) C0 (c_X12_on l E g a x9 x10 e20) bw774 bw823 bw778 bw824 bw825 hd_X12_on ⟨Nat.le_of_ble_eq_true rfl, Nat.le_of_ble_eq_true rfl⟩ hP (wM_D hD) hS (va_recv hK hP (ci := 12) rfl (gm_0 E g a)) rfl hl.1 rfl (Nat.le_of_ble_eq_true rfl) dX12_canBoth_126 ⟨Nat.zero_le _, Nat.zero_le _⟩) hS (fun H locs hP hS => ?_)
              exact B129 K6 hK6 K35 hK35 (f_X12_canBoth_69 g a K6 K35 n) ih x1 x2 x3 x4 x6 x7 x9 x10 u19 _ _ _ hP hS (lv_sub hl [1, 2, 3, 4, 5, 6, 7, 9, 10] rfl) hf
            · replace hf := (if_pos c18).symm.trans hf
              refine lv_iload hx hb dX12_canBoth_116 (lv_at hl 5 rfl) ?_
              refine lv_goto (tgt := 129) hx hb dX12_canBoth_118 (by decide) ?_
              exact B129 K6 hK6 K35 hK35 (f_X12_canBoth_69 g a K6 K35 n) ih x1 x2 x3 x4 x6 x7 x9 x10 x4 _ _ _ hP hS (lv_sub hl [1, 2, 3, 4, 5, 6, 7, 9, 10] rfl) hf
          · replace hf := (if_pos c17).symm.trans hf
            refine lv_iload_n hx hb dX12_canBoth_106 rfl (lv_at hl 3 rfl) ?_
            refine lv_goto (tgt := 129) hx hb dX12_canBoth_107 (by decide) ?_
            exact B129 K6 hK6 K35 hK35 (f_X12_canBoth_69 g a K6 K35 n) ih x1 x2 x3 x4 x6 x7 x9 x10 x2 _ _ _ hP hS (lv_sub hl [1, 2, 3, 4, 5, 6, 7, 9, 10] rfl) hf
  have B35 : ∀ (K6 : Int32 → Int32 → Int32 → Int32 → Int32 → Int32 → Option (Int32)) (hK6 : ∀ (x1 : Int32) (x2 : Int32) (x3 : Int32) (x4 : Int32) (x5 : Int32) (x6 : Int32) (H : Heap) (locs : List Loc) (ls : Array Slot), va_P E.1 vwCl (wM E g a) H → va_S A s.heap H locs → lv_has ls 13 [(0, .ref (E.2.1 0)), (1, .int x1), (2, .int x2), (3, .int x3), (4, .int x4), (5, .int x5), (6, .int x6)] → K6 x1 x2 x3 x4 x5 x6 = some res → W p l e ({ frames := 3, cells := 0, slots := 0, locals := 72 }) s m ([.ref (E.2.1 0), .int v1, .int v2, .int v3, .int v4] : List Value).toArray below meth c H locs 0 0 (MQ below ((xQi E res (wM E g a)) A) ([.ref (E.2.1 0), .int v1, .int v2, .int v3, .int v4] : List Value).toArray s 0 0 A) (F0 m 6 ls [])) (n : Nat) (x1 : Int32) (x2 : Int32) (x3 : Int32) (x4 : Int32) (x6 : Int32) (x7 : Int32) (x8 : Int32) (x9 : Int32) (H : Heap) (locs : List Loc) (ls : Array Slot), va_P E.1 vwCl (wM E g a) H → va_S A s.heap H locs → lv_has ls 13 [(0, .ref (E.2.1 0)), (1, .int x1), (2, .int x2), (3, .int x3), (4, .int x4), (6, .int x6), (7, .int x7), (8, .int x8), (9, .int x9)] → f_X12_canBoth_35 g a K6 n x1 x2 x3 x4 x6 x7 x8 x9 = some res → W p l e ({ frames := 3, cells := 0, slots := 0, locals := 72 }) s m ([.ref (E.2.1 0), .int v1, .int v2, .int v3, .int v4] : List Value).toArray below meth c H locs 0 0 (MQ below ((xQi E res (wM E g a)) A) ([.ref (E.2.1 0), .int v1, .int v2, .int v3, .int v4] : List Value).toArray s 0 0 A) (F0 m 35 ls []) := by
    intro K6 hK6 n
    induction n with
    | zero => intro x1 x2 x3 x4 x6 x7 x8 x9 H locs ls hP hS hl hf; exact absurd (show (none : Option (Int32)) = some res from hf) (by intro h; cases h)
    | succ n ih =>
      intro x1 x2 x3 x4 x6 x7 x8 x9 H locs ls hP hS hl hf
      replace hf := (e_X12_canBoth_35 g a K6 n x1 x2 x3 x4 x6 x7 x8 x9).symm.trans hf
      refine lv_iload hx hb dX12_canBoth_35 (lv_at hl 8 rfl) ?_
      refine lv_aload_n hx hb dX12_canBoth_37 rfl (lv_at hl 0 rfl) ?_
      refine lv_aload_n hx hb dX12_canBoth_38 rfl (lv_at hl 0 rfl) ?_
      refine va_get (C := RX12) (T := TX12) (N := 22) hx hb hw bfX120 hown hK hP 0 (gm_0 E g a) rfl 2 (by decide) (hw _ bw756) (fun _ h9 => h9) rfl dX12_canBoth_39 ?_
      refine lv_iload hx hb dX12_canBoth_42 (lv_at hl 6 rfl) ?_
      obtain ⟨k6, hf⟩ := ck_some hf
      refine va_iald hx hb hK hP 1 0 (gm_1 E g a) rfl (inB_in k6) dX12_canBoth_44 ?_
      obtain ⟨u7, e8, hf⟩ := bd_some hf
      refine xci (xRunV (rest := [.int x9]) (As := [.int (a 1 (x7 : Int32).toNatClampNeg)]) (C := RX12) (k := 1) C0 (c_X12_power l E g a (a 1 (x7 : Int32).toNatClampNeg) e8) bw773 bw775 bw778 bw776 bw777 hd_X12_power ⟨Nat.le_of_ble_eq_true rfl, Nat.le_of_ble_eq_true rfl⟩ hP (wM_D hD) hS (va_recv hK hP (ci := 12) rfl (gm_0 E g a)) rfl hl.1 rfl (Nat.le_of_ble_eq_true rfl) dX12_canBoth_45 ⟨Nat.zero_le _, Nat.zero_le _⟩) hS (fun H locs hP hS => ?_)
      refine lv_icmp_ge (tgt := 163) hx hb dX12_canBoth_48 (by decide) (fun c9 => ?_) (fun c9 => ?_)
      · replace hf := (if_pos c9).symm.trans hf
        refine lv_iload hx hb dX12_canBoth_163 (lv_at hl 7 rfl) ?_
        refine lv_istore (lv' := [(5, .int x8), (0, .ref (E.2.1 0)), (1, .int x1), (2, .int x2), (3, .int x3), (4, .int x4), (6, .int x6), (7, .int x7), (8, .int x8), (9, .int x9)]) hx hb dX12_canBoth_165 hl (by decide) rfl (fun ls hl => ?_)
        refine lv_iinc (v := (x6 + 1)) (lv' := [(6, .int (x6 + 1)), (5, .int x8), (0, .ref (E.2.1 0)), (1, .int x1), (2, .int x2), (3, .int x3), (4, .int x4), (7, .int x7), (8, .int x8), (9, .int x9)]) hx hb dX12_canBoth_167 hl (k := 6) rfl rfl (by decide) rfl (fun ls hl => ?_)
        refine lv_goto (tgt := 6) hx hb dX12_canBoth_170 (by decide) ?_
        exact hK6 x1 x2 x3 x4 x8 (x6 + 1) _ _ _ hP hS (lv_sub hl [2, 3, 4, 5, 6, 1, 0] rfl) hf
      · replace hf := (if_neg c9).symm.trans hf
        refine lv_iload hx hb dX12_canBoth_51 (lv_at hl 7 rfl) ?_
        refine lv_if_ne (tgt := 163) hx hb dX12_canBoth_53 (by decide) (fun c10 => ?_) (fun c10 => ?_)
        · replace hf := (if_neg c10).symm.trans hf
          refine lv_iload hx hb dX12_canBoth_163 (lv_at hl 7 rfl) ?_
          refine lv_istore (lv' := [(5, .int x8), (0, .ref (E.2.1 0)), (1, .int x1), (2, .int x2), (3, .int x3), (4, .int x4), (6, .int x6), (7, .int x7), (8, .int x8), (9, .int x9)]) hx hb dX12_canBoth_165 hl (by decide) rfl (fun ls hl => ?_)
          refine lv_iinc (v := (x6 + 1)) (lv' := [(6, .int (x6 + 1)), (5, .int x8), (0, .ref (E.2.1 0)), (1, .int x1), (2, .int x2), (3, .int x3), (4, .int x4), (7, .int x7), (8, .int x8), (9, .int x9)]) hx hb dX12_canBoth_167 hl (k := 6) rfl rfl (by decide) rfl (fun ls hl => ?_)
          refine lv_goto (tgt := 6) hx hb dX12_canBoth_170 (by decide) ?_
          exact hK6 x1 x2 x3 x4 x8 (x6 + 1) _ _ _ hP hS (lv_sub hl [2, 3, 4, 5, 6, 1, 0] rfl) hf
        · replace hf := (if_pos c10).symm.trans hf
          refine lv_aload_n hx hb dX12_canBoth_56 rfl (lv_at hl 0 rfl) ?_
          refine lv_iload hx hb dX12_canBoth_57 (lv_at hl 5 rfl) ?_
          refine lv_iload hx hb dX12_canBoth_59 (lv_at hl 8 rfl) ?_
          obtain ⟨u11, e12, hf⟩ := bd_some hf
          refine xci (xRunV (rest := []) (As := [.int x6, .int x9]) (C := RX12) (k := 2) C0 (c_X12_canStand l E g a x6 x9 e12) bw968 bw970 bw778 bw971 bw972 hd_X12_canStand ⟨Nat.le_of_ble_eq_true rfl, Nat.le_of_ble_eq_true rfl⟩ hP (wM_D hD) hS (va_recv hK hP (ci := 12) rfl (gm_0 E g a)) rfl hl.1 rfl (Nat.le_of_ble_eq_true rfl) dX12_canBoth_61 ⟨Nat.zero_le _, Nat.zero_le _⟩) hS (fun H locs hP hS => ?_)
          refine lv_istore (lv' := [(8, .int u11), (0, .ref (E.2.1 0)), (1, .int x1), (2, .int x2), (3, .int x3), (4, .int x4), (6, .int x6), (7, .int x7), (9, .int x9)]) hx hb dX12_canBoth_64 hl (by decide) rfl (fun ls hl => ?_)
          refine lv_iconst (v := 0) hx hb dX12_canBoth_66 (by decide) ?_
          refine lv_istore (lv' := [(10, .int 0), (8, .int u11), (0, .ref (E.2.1 0)), (1, .int x1), (2, .int x2), (3, .int x3), (4, .int x4), (6, .int x6), (7, .int x7), (9, .int x9)]) hx hb dX12_canBoth_67 hl (by decide) rfl (fun ls hl => ?_)
          exact B69 K6 hK6 (f_X12_canBoth_35 g a K6 n) ih fu x1 x2 x3 x4 x6 x7 u11 x9 0 _ _ _ hP hS (lv_sub hl [2, 3, 4, 5, 6, 7, 8, 1, 9, 0] rfl) hf
  have B6 : ∀ (n : Nat) (x1 : Int32) (x2 : Int32) (x3 : Int32) (x4 : Int32) (x5 : Int32) (x6 : Int32) (H : Heap) (locs : List Loc) (ls : Array Slot), va_P E.1 vwCl (wM E g a) H → va_S A s.heap H locs → lv_has ls 13 [(0, .ref (E.2.1 0)), (1, .int x1), (2, .int x2), (3, .int x3), (4, .int x4), (5, .int x5), (6, .int x6)] → f_X12_canBoth_6 g a n x1 x2 x3 x4 x5 x6 = some res → W p l e ({ frames := 3, cells := 0, slots := 0, locals := 72 }) s m ([.ref (E.2.1 0), .int v1, .int v2, .int v3, .int v4] : List Value).toArray below meth c H locs 0 0 (MQ below ((xQi E res (wM E g a)) A) ([.ref (E.2.1 0), .int v1, .int v2, .int v3, .int v4] : List Value).toArray s 0 0 A) (F0 m 6 ls []) := by
    intro n
    induction n with
    | zero => intro x1 x2 x3 x4 x5 x6 H locs ls hP hS hl hf; exact absurd (show (none : Option (Int32)) = some res from hf) (by intro h; cases h)
    | succ n ih =>
      intro x1 x2 x3 x4 x5 x6 H locs ls hP hS hl hf
      replace hf := (e_X12_canBoth_6 g a n x1 x2 x3 x4 x5 x6).symm.trans hf
      refine lv_iload hx hb dX12_canBoth_6 (lv_at hl 6 rfl) ?_
      refine lv_aload_n hx hb dX12_canBoth_8 rfl (lv_at hl 0 rfl) ?_
      refine va_get (C := RX12) (T := TX12) (N := 22) hx hb hw bfX120 hown hK hP 0 (gm_0 E g a) rfl 15 (by decide) (hw _ bw784) (fun _ h9 => h9) rfl dX12_canBoth_9 ?_
      refine lv_icmp_ge (tgt := 173) hx hb dX12_canBoth_12 (by decide) (fun c1 => ?_) (fun c1 => ?_)
      · replace hf := (if_pos c1).symm.trans hf
        refine lv_iload hx hb dX12_canBoth_173 (lv_at hl 5 rfl) ?_
        obtain ⟨k2, hf⟩ := ck_some hf
        exact xz_retS (fr := (fun r => r)) (fw := (fun r => wM E g a)) hx hb hr hlocks (Option.some.inj hf) (boB_bo k2) hP hS dX12_canBoth_175
      · replace hf := (if_neg c1).symm.trans hf
        refine lv_iload hx hb dX12_canBoth_15 (lv_at hl 5 rfl) ?_
        refine lv_if_eq (tgt := 173) hx hb dX12_canBoth_17 (by decide) (fun c3 => ?_) (fun c3 => ?_)
        · replace hf := (if_pos c3).symm.trans hf
          refine lv_iload hx hb dX12_canBoth_173 (lv_at hl 5 rfl) ?_
          obtain ⟨k4, hf⟩ := ck_some hf
          exact xz_retS (fr := (fun r => r)) (fw := (fun r => wM E g a)) hx hb hr hlocks (Option.some.inj hf) (boB_bo k4) hP hS dX12_canBoth_175
        · replace hf := (if_neg c3).symm.trans hf
          refine lv_aload_n hx hb dX12_canBoth_20 rfl (lv_at hl 0 rfl) ?_
          refine va_get (C := RX12) (T := TX12) (N := 22) hx hb hw bfX120 hown hK hP 0 (gm_0 E g a) rfl 16 (by decide) (hw _ bw765) (fun _ h9 => h9) rfl dX12_canBoth_21 ?_
          refine lv_iload hx hb dX12_canBoth_24 (lv_at hl 6 rfl) ?_
          obtain ⟨k5, hf⟩ := ck_some hf
          refine va_iald hx hb hK hP 9 0 (gm_9 E g a) rfl (inB_in k5) dX12_canBoth_26 ?_
          refine lv_istore (lv' := [(7, .int (a 9 (x6 : Int32).toNatClampNeg)), (0, .ref (E.2.1 0)), (1, .int x1), (2, .int x2), (3, .int x3), (4, .int x4), (5, .int x5), (6, .int x6)]) hx hb dX12_canBoth_27 hl (by decide) rfl (fun ls hl => ?_)
          refine lv_iconst (v := 0) hx hb dX12_canBoth_29 (by decide) ?_
          refine lv_istore (lv' := [(8, .int 0), (7, .int (a 9 (x6 : Int32).toNatClampNeg)), (0, .ref (E.2.1 0)), (1, .int x1), (2, .int x2), (3, .int x3), (4, .int x4), (5, .int x5), (6, .int x6)]) hx hb dX12_canBoth_30 hl (by decide) rfl (fun ls hl => ?_)
          refine lv_iconst (v := 0) hx hb dX12_canBoth_32 (by decide) ?_
          refine lv_istore (lv' := [(9, .int 0), (8, .int 0), (7, .int (a 9 (x6 : Int32).toNatClampNeg)), (0, .ref (E.2.1 0)), (1, .int x1), (2, .int x2), (3, .int x3), (4, .int x4), (5, .int x5), (6, .int x6)]) hx hb dX12_canBoth_33 hl (by decide) rfl (fun ls hl => ?_)
          exact B35 (f_X12_canBoth_6 g a n) ih fu x1 x2 x3 x4 x6 (a 9 (x6 : Int32).toNatClampNeg) 0 0 _ _ _ hP hS (lv_sub hl [3, 4, 5, 6, 7, 9, 2, 1, 0] rfl) hf
  refine lv_iconst (v := 1) hx hb dX12_canBoth_0 (by decide) ?_
  refine lv_istore (lv' := [(5, .int 1), (0, .ref (E.2.1 0)), (1, .int v1), (2, .int v2), (3, .int v3), (4, .int v4)]) hx hb dX12_canBoth_1 hl (by decide) rfl (fun ls hl => ?_)
  refine lv_iconst (v := 0) hx hb dX12_canBoth_3 (by decide) ?_
  refine lv_istore (lv' := [(6, .int 0), (5, .int 1), (0, .ref (E.2.1 0)), (1, .int v1), (2, .int v2), (3, .int v3), (4, .int v4)]) hx hb dX12_canBoth_4 hl (by decide) rfl (fun ls hl => ?_)
  exact B6 fu v1 v2 v3 v4 1 0 _ _ _ hP hS (lv_sub hl [2, 3, 4, 5, 6, 1, 0] rfl) hf
