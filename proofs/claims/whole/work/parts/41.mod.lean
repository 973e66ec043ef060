/-! X12_picksBy, X12_come, X12_doesKeep, X12_keepsAll, X12_areBoth, X12_keeps, X12_breaks, X12_answer, X12_isIdempotent, X12_isSymmetric, X12_associates, X12_isMajority, X12_isMaltsev, X12_has, X12_closes -/
def f_X12_picksBy_9 (g : xG) : Nat → xA → Int32 → Int32 → Int32 → Int32 → Int32 → Int32 → Option (Int32 × xA)
  | 0, _, _, _, _, _, _, _ => none
  | n + 1, a, x2, x3, x4, x5, x6, x7 => (if x2 ≤ x7 then ck (boB x6) (some (x6, a)) else ck (nzB x3) (ck (inB x7 3) (ck (nzB x3) ((if x6 = 0 then f_X12_picksBy_9 g n (upA a 11 (upd (a 11) (x7 : Int32).toNatClampNeg (x5 - x5 / x3 * x3))) x2 x3 x4 (x5 / x3) 0 (x7 + 1) else ck (inB x7 3) ((if (t_X12_isIn g (upA a 11 (upd (a 11) (x7 : Int32).toNatClampNeg (x5 - x5 / x3 * x3))) x4 ((upA a 11 (upd (a 11) (x7 : Int32).toNatClampNeg (x5 - x5 / x3 * x3))) 11 (x7 : Int32).toNatClampNeg)) = 0 then f_X12_picksBy_9 g n (upA a 11 (upd (a 11) (x7 : Int32).toNatClampNeg (x5 - x5 / x3 * x3))) x2 x3 x4 (x5 / x3) 0 (x7 + 1) else f_X12_picksBy_9 g n (upA a 11 (upd (a 11) (x7 : Int32).toNatClampNeg (x5 - x5 / x3 * x3))) x2 x3 x4 (x5 / x3) 1 (x7 + 1))))))))
theorem e_X12_picksBy_9 (g : xG) (n : Nat) (a : xA) (x2 : Int32) (x3 : Int32) (x4 : Int32) (x5 : Int32) (x6 : Int32) (x7 : Int32) : f_X12_picksBy_9 g (n + 1) a x2 x3 x4 x5 x6 x7 = (if x2 ≤ x7 then ck (boB x6) (some (x6, a)) else ck (nzB x3) (ck (inB x7 3) (ck (nzB x3) ((if x6 = 0 then f_X12_picksBy_9 g n (upA a 11 (upd (a 11) (x7 : Int32).toNatClampNeg (x5 - x5 / x3 * x3))) x2 x3 x4 (x5 / x3) 0 (x7 + 1) else ck (inB x7 3) ((if (t_X12_isIn g (upA a 11 (upd (a 11) (x7 : Int32).toNatClampNeg (x5 - x5 / x3 * x3))) x4 ((upA a 11 (upd (a 11) (x7 : Int32).toNatClampNeg (x5 - x5 / x3 * x3))) 11 (x7 : Int32).toNatClampNeg)) = 0 then f_X12_picksBy_9 g n (upA a 11 (upd (a 11) (x7 : Int32).toNatClampNeg (x5 - x5 / x3 * x3))) x2 x3 x4 (x5 / x3) 0 (x7 + 1) else f_X12_picksBy_9 g n (upA a 11 (upd (a 11) (x7 : Int32).toNatClampNeg (x5 - x5 / x3 * x3))) x2 x3 x4 (x5 / x3) 1 (x7 + 1)))))))) := rfl
def f_X12_picksBy (g : xG) (a : xA) (v1 : Int32) (v2 : Int32) (v3 : Int32) (v4 : Int32) : Option (Int32 × xA) := f_X12_picksBy_9 g fu a v2 v3 v4 v1 1 0
set_option maxRecDepth 100000 in
set_option maxHeartbeats 40000000 in
theorem c_X12_picksBy (l : Launch) (E : xE) (g : xG) (a : xA) (v1 : Int32) (v2 : Int32) (v3 : Int32) (v4 : Int32) {res : Int32 × xA} (hf : f_X12_picksBy g a v1 v2 v3 v4 = some res) : xM l E yX12_picksBy cX12_picksBy 8 (some .boolean) 1 21 [.ref (E.2.1 0), .int v1, .int v2, .int v3, .int v4] (wM E g a) (xQi E res.1 (wM E g res.2)) := by
  unfold f_X12_picksBy at hf
  refine xM_of (by decide) (Nat.le_of_ble_eq_true rfl) ?_
  intro p e s m below meth c A hx hb hr hml hts hown hlocks hA hD hP hK hN hS ls hl
  have hw : ∀ w ∈ BW, w.before _ s = true := fun w h => hts w (List.mem_cons_of_mem _ h)
  have C0 : xCtx E p m c cX12_picksBy 8 s _ RX12 A yX12_picksBy cX12_picksBy 8 (some .boolean) := ⟨hx, hb, hml, hown, hts, hA, hK, hN⟩
  have hl : lv_has ls 8 [(0, .ref (E.2.1 0)), (1, .int v1), (2, .int v2), (3, .int v3), (4, .int v4)] := hl
  have B9 : ∀ (n : Nat) (a : xA) (x2 : Int32) (x3 : Int32) (x4 : Int32) (x5 : Int32) (x6 : Int32) (x7 : Int32) (H : Heap) (locs : List Loc) (ls : Array Slot), va_P E.1 vwCl (wM E g a) H → va_S A s.heap H locs → lv_has ls 8 [(0, .ref (E.2.1 0)), (2, .int x2), (3, .int x3), (4, .int x4), (5, .int x5), (6, .int x6), (7, .int x7)] → f_X12_picksBy_9 g n a x2 x3 x4 x5 x6 x7 = some res → W p l e ({ frames := 1, cells := 0, slots := 0, locals := 21 }) s m ([.ref (E.2.1 0), .int v1, .int v2, .int v3, .int v4] : List Value).toArray below meth c H locs 0 0 (MQ below ((xQi E res.1 (wM E g res.2)) A) ([.ref (E.2.1 0), .int v1, .int v2, .int v3, .int v4] : List Value).toArray s 0 0 A) (F0 m 9 ls []) := by
    intro n
    induction n with
    | zero => intro a x2 x3 x4 x5 x6 x7 H locs ls hP hS hl hf; exact absurd (show (none : Option (Int32 × xA)) = some res from hf) (by intro h; cases h)
    | succ n ih =>
      intro a x2 x3 x4 x5 x6 x7 H locs ls hP hS hl hf
      replace hf := (e_X12_picksBy_9 g n a x2 x3 x4 x5 x6 x7).symm.trans hf
      refine lv_iload hx hb dX12_picksBy_9 (lv_at hl 6 rfl) ?_
      refine lv_iload_n hx hb dX12_picksBy_11 rfl (lv_at hl 1 rfl) ?_
      refine lv_icmp_ge (tgt := 65) hx hb dX12_picksBy_12 (by decide) (fun c1 => ?_) (fun c1 => ?_)
      · replace hf := (if_pos c1).symm.trans hf
        refine lv_iload hx hb dX12_picksBy_65 (lv_at hl 5 rfl) ?_
        obtain ⟨k2, hf⟩ := ck_some hf
        exact xz_retS (fr := (fun r => r.1)) (fw := (fun r => wM E g r.2)) hx hb hr hlocks (Option.some.inj hf) (boB_bo k2) hP hS dX12_picksBy_67
      · replace hf := (if_neg c1).symm.trans hf
        refine lv_aload_n hx hb dX12_picksBy_15 rfl (lv_at hl 0 rfl) ?_
        refine va_get (C := RX12) (T := TX12) (N := 22) hx hb hw bfX120 hown hK hP 0 (gm_0 E g a) rfl 18 (by decide) (hw _ bw767) (fun _ h9 => h9) rfl dX12_picksBy_16 ?_
        refine lv_iload hx hb dX12_picksBy_19 (lv_at hl 6 rfl) ?_
        refine lv_iload hx hb dX12_picksBy_21 (lv_at hl 4 rfl) ?_
        refine lv_iload_n hx hb dX12_picksBy_23 rfl (lv_at hl 2 rfl) ?_
        obtain ⟨k3, hf⟩ := ck_some hf
        refine lv_irem hx hb dX12_picksBy_24 (nzB_nz k3) ?_
        obtain ⟨k4, hf⟩ := ck_some hf
        refine va_iast hx hb hK hP (wM_D hD) hS 11 0 (gm_11 E g a) rfl (inB_in k4) dX12_picksBy_25 (fun H locs hP _ hS => ?_)
        have hP := xP_eq (sm_a11 E g a (upd (a 11) (x7 : Int32).toNatClampNeg (x5 - x5 / x3 * x3))) hP
        refine lv_iload hx hb dX12_picksBy_26 (lv_at hl 4 rfl) ?_
        refine lv_iload_n hx hb dX12_picksBy_28 rfl (lv_at hl 2 rfl) ?_
        obtain ⟨k5, hf⟩ := ck_some hf
        refine lv_idiv hx hb dX12_picksBy_29 (nzB_nz k5) ?_
        refine lv_istore (lv' := [(5, .int (x5 / x3)), (0, .ref (E.2.1 0)), (2, .int x2), (3, .int x3), (4, .int x4), (6, .int x6), (7, .int x7)]) hx hb dX12_picksBy_30 hl (by decide) rfl (fun ls hl => ?_)
        refine lv_iload hx hb dX12_picksBy_32 (lv_at hl 5 rfl) ?_
        refine lv_if_eq (tgt := 56) hx hb dX12_picksBy_34 (by decide) (fun c6 => ?_) (fun c6 => ?_)
        · replace hf := (if_pos c6).symm.trans hf
          refine lv_iconst (v := 0) hx hb dX12_picksBy_56 (by decide) ?_
          refine lv_istore (lv' := [(6, .int 0), (5, .int (x5 / x3)), (0, .ref (E.2.1 0)), (2, .int x2), (3, .int x3), (4, .int x4), (7, .int x7)]) hx hb dX12_picksBy_57 hl (by decide) rfl (fun ls hl => ?_)
          refine lv_iinc (v := (x7 + 1)) (lv' := [(7, .int (x7 + 1)), (6, .int 0), (5, .int (x5 / x3)), (0, .ref (E.2.1 0)), (2, .int x2), (3, .int x3), (4, .int x4)]) hx hb dX12_picksBy_59 hl (k := 6) rfl rfl (by decide) rfl (fun ls hl => ?_)
          refine lv_goto (tgt := 9) hx hb dX12_picksBy_62 (by decide) ?_
          exact ih (upA a 11 (upd (a 11) (x7 : Int32).toNatClampNeg (x5 - x5 / x3 * x3))) x2 x3 x4 (x5 / x3) 0 (x7 + 1) _ _ _ hP hS (lv_sub hl [3, 4, 5, 6, 2, 1, 0] rfl) hf
        · replace hf := (if_neg c6).symm.trans hf
          refine lv_iload hx hb dX12_picksBy_37 (lv_at hl 4 rfl) ?_
          refine lv_aload_n hx hb dX12_picksBy_39 rfl (lv_at hl 1 rfl) ?_
          refine va_get (C := RX12) (T := TX12) (N := 22) hx hb hw bfX120 hown hK hP 0 (gm_0 E g (upA a 11 (upd (a 11) (x7 : Int32).toNatClampNeg (x5 - x5 / x3 * x3)))) rfl 18 (by decide) (hw _ bw767) (fun _ h9 => h9) rfl dX12_picksBy_40 ?_
          refine lv_iload hx hb dX12_picksBy_43 (lv_at hl 6 rfl) ?_
          obtain ⟨k7, hf⟩ := ck_some hf
          refine va_iald hx hb hK hP 11 0 (gm_11 E g (upA a 11 (upd (a 11) (x7 : Int32).toNatClampNeg (x5 - x5 / x3 * x3)))) rfl (inB_in k7) dX12_picksBy_45 ?_
          refine xci (xRunS (rest := []) (As := [.int x4, .int ((upA a 11 (upd (a 11) (x7 : Int32).toNatClampNeg (x5 - x5 / x3 * x3))) 11 (x7 : Int32).toNatClampNeg)]) (k := 2) C0 (c_X12_isIn l E g (upA a 11 (upd (a 11) (x7 : Int32).toNatClampNeg (x5 - x5 / x3 * x3))) x4 ((upA a 11 (upd (a 11) (x7 : Int32).toNatClampNeg (x5 - x5 / x3 * x3))) 11 (x7 : Int32).toNatClampNeg)) bw779 bw793 bw778 bw794 hd_X12_isIn ⟨Nat.le_of_ble_eq_true rfl, Nat.le_of_ble_eq_true rfl⟩ hP (wM_D hD) hS rfl hl.1 rfl (Nat.le_of_ble_eq_true rfl) dX12_picksBy_46 ⟨Nat.zero_le _, Nat.zero_le _⟩) hS (fun H locs hP hS => ?_)
          refine lv_if_eq (tgt := 56) hx hb dX12_picksBy_49 (by decide) (fun c8 => ?_) (fun c8 => ?_)
          · replace hf := (if_pos c8).symm.trans hf
            refine lv_iconst (v := 0) hx hb dX12_picksBy_56 (by decide) ?_
            refine lv_istore (lv' := [(6, .int 0), (5, .int (x5 / x3)), (0, .ref (E.2.1 0)), (2, .int x2), (3, .int x3), (4, .int x4), (7, .int x7)]) hx hb dX12_picksBy_57 hl (by decide) rfl (fun ls hl => ?_)
            refine lv_iinc (v := (x7 + 1)) (lv' := [(7, .int (x7 + 1)), (6, .int 0), (5, .int (x5 / x3)), (0, .ref (E.2.1 0)), (2, .int x2), (3, .int x3), (4, .int x4)]) hx hb dX12_picksBy_59 hl (k := 6) rfl rfl (by decide) rfl (fun ls hl => ?_)
            refine lv_goto (tgt := 9) hx hb dX12_picksBy_62 (by decide) ?_
            exact ih (upA a 11 (upd (a 11) (x7 : Int32).toNatClampNeg (x5 - x5 / x3 * x3))) x2 x3 x4 (x5 / x3) 0 (x7 + 1) _ _ _ hP hS (lv_sub hl [3, 4, 5, 6, 2, 1, 0] rfl) hf
          · replace hf := (if_neg c8).symm.trans hf
            refine lv_iconst (v := 1) hx hb dX12_picksBy_52 (by decide) ?_
            refine lv_goto (tgt := 57) hx hb dX12_picksBy_53 (by decide) ?_
            refine lv_istore (lv' := [(6, .int 1), (5, .int (x5 / x3)), (0, .ref (E.2.1 0)), (2, .int x2), (3, .int x3), (4, .int x4), (7, .int x7)]) hx hb dX12_picksBy_57 hl (by decide) rfl (fun ls hl => ?_)
            refine lv_iinc (v := (x7 + 1)) (lv' := [(7, .int (x7 + 1)), (6, .int 1), (5, .int (x5 / x3)), (0, .ref (E.2.1 0)), (2, .int x2), (3, .int x3), (4, .int x4)]) hx hb dX12_picksBy_59 hl (k := 6) rfl rfl (by decide) rfl (fun ls hl => ?_)
            refine lv_goto (tgt := 9) hx hb dX12_picksBy_62 (by decide) ?_
            exact ih (upA a 11 (upd (a 11) (x7 : Int32).toNatClampNeg (x5 - x5 / x3 * x3))) x2 x3 x4 (x5 / x3) 1 (x7 + 1) _ _ _ hP hS (lv_sub hl [3, 4, 5, 6, 2, 1, 0] rfl) hf
  refine lv_iload_n hx hb dX12_picksBy_0 rfl (lv_at hl 1 rfl) ?_
  refine lv_istore (lv' := [(5, .int v1), (0, .ref (E.2.1 0)), (1, .int v1), (2, .int v2), (3, .int v3), (4, .int v4)]) hx hb dX12_picksBy_1 hl (by decide) rfl (fun ls hl => ?_)
  refine lv_iconst (v := 1) hx hb dX12_picksBy_3 (by decide) ?_
  refine lv_istore (lv' := [(6, .int 1), (5, .int v1), (0, .ref (E.2.1 0)), (1, .int v1), (2, .int v2), (3, .int v3), (4, .int v4)]) hx hb dX12_picksBy_4 hl (by decide) rfl (fun ls hl => ?_)
  refine lv_iconst (v := 0) hx hb dX12_picksBy_6 (by decide) ?_
  refine lv_istore (lv' := [(7, .int 0), (6, .int 1), (5, .int v1), (0, .ref (E.2.1 0)), (1, .int v1), (2, .int v2), (3, .int v3), (4, .int v4)]) hx hb dX12_picksBy_7 hl (by decide) rfl (fun ls hl => ?_)
  exact B9 fu a v2 v3 v4 v1 1 0 _ _ _ hP hS (lv_sub hl [3, 5, 6, 7, 2, 1, 0] rfl) hf
def f_X12_come_46 (g : xG) : Nat → xA → Int32 → Int32 → Int32 → Int32 → Int32 → Int32 → Int32 → Int32 → Option (Int32 × xA)
  | 0, _, _, _, _, _, _, _, _, _ => none
  | n + 1, a, x1, x2, x3, x4, x5, x6, x7, x8 => (if x6 ≤ x8 then some (x7, a) else Option.bind (f_X12_picksBy g a x8 x2 x5 x4) (fun u6 => (if u6.1 = 0 then f_X12_come_46 g n u6.2 x1 x2 x3 x4 x5 x6 x7 (x8 + 1) else Option.bind (f_X12_applied g u6.2 x1 x2 x3) (fun u9 => f_X12_come_46 g n u6.2 x1 x2 x3 x4 x5 x6 (x7 ||| ((1 : Int32) <<< (u9 &&& 31))) (x8 + 1)))))
theorem e_X12_come_46 (g : xG) (n : Nat) (a : xA) (x1 : Int32) (x2 : Int32) (x3 : Int32) (x4 : Int32) (x5 : Int32) (x6 : Int32) (x7 : Int32) (x8 : Int32) : f_X12_come_46 g (n + 1) a x1 x2 x3 x4 x5 x6 x7 x8 = (if x6 ≤ x8 then some (x7, a) else Option.bind (f_X12_picksBy g a x8 x2 x5 x4) (fun u6 => (if u6.1 = 0 then f_X12_come_46 g n u6.2 x1 x2 x3 x4 x5 x6 x7 (x8 + 1) else Option.bind (f_X12_applied g u6.2 x1 x2 x3) (fun u9 => f_X12_come_46 g n u6.2 x1 x2 x3 x4 x5 x6 (x7 ||| ((1 : Int32) <<< (u9 &&& 31))) (x8 + 1))))) := rfl
def f_X12_come (g : xG) (a : xA) (v1 : Int32) (v2 : Int32) (v3 : Int32) (v4 : Int32) : Option (Int32 × xA) := Option.bind (f_X12_power g a v3) (fun u1 => (if v2 = 1 then f_X12_come_46 g fu a v1 v2 v3 v4 u1 u1 0 0 else (if v2 = 2 then f_X12_come_46 g fu a v1 v2 v3 v4 u1 (u1 * u1) 0 0 else f_X12_come_46 g fu a v1 v2 v3 v4 u1 ((u1 * u1) * u1) 0 0)))
set_option maxRecDepth 100000 in
set_option maxHeartbeats 40000000 in
theorem c_X12_come (l : Launch) (E : xE) (g : xG) (a : xA) (v1 : Int32) (v2 : Int32) (v3 : Int32) (v4 : Int32) {res : Int32 × xA} (hf : f_X12_come g a v1 v2 v3 v4 = some res) : xM l E yX12_come cX12_come 9 (some .int) 3 72 [.ref (E.2.1 0), .int v1, .int v2, .int v3, .int v4] (wM E g a) (xQi E res.1 (wM E g res.2)) := by
  unfold f_X12_come at hf
  refine xM_of (by decide) (Nat.le_of_ble_eq_true rfl) ?_
  intro p e s m below meth c A hx hb hr hml hts hown hlocks hA hD hP hK hN hS ls hl
  have hw : ∀ w ∈ BW, w.before _ s = true := fun w h => hts w (List.mem_cons_of_mem _ h)
  have C0 : xCtx E p m c cX12_come 9 s _ RX12 A yX12_come cX12_come 9 (some .int) := ⟨hx, hb, hml, hown, hts, hA, hK, hN⟩
  have hl : lv_has ls 9 [(0, .ref (E.2.1 0)), (1, .int v1), (2, .int v2), (3, .int v3), (4, .int v4)] := hl
  have B46 : ∀ (n : Nat) (a : xA) (x1 : Int32) (x2 : Int32) (x3 : Int32) (x4 : Int32) (x5 : Int32) (x6 : Int32) (x7 : Int32) (x8 : Int32) (H : Heap) (locs : List Loc) (ls : Array Slot), va_P E.1 vwCl (wM E g a) H → va_S A s.heap H locs → lv_has ls 9 [(0, .ref (E.2.1 0)), (1, .int x1), (2, .int x2), (3, .int x3), (4, .int x4), (5, .int x5), (6, .int x6), (7, .int x7), (8, .int x8)] → f_X12_come_46 g n a x1 x2 x3 x4 x5 x6 x7 x8 = some res → W p l e ({ frames := 3, cells := 0, slots := 0, locals := 72 }) s m ([.ref (E.2.1 0), .int v1, .int v2, .int v3, .int v4] : List Value).toArray below meth c H locs 0 0 (MQ below ((xQi E res.1 (wM E g res.2)) A) ([.ref (E.2.1 0), .int v1, .int v2, .int v3, .int v4] : List Value).toArray s 0 0 A) (F0 m 46 ls []) := by
    intro n
    induction n with
    | zero => intro a x1 x2 x3 x4 x5 x6 x7 x8 H locs ls hP hS hl hf; exact absurd (show (none : Option (Int32 × xA)) = some res from hf) (by intro h; cases h)
    | succ n ih =>
      intro a x1 x2 x3 x4 x5 x6 x7 x8 H locs ls hP hS hl hf
      replace hf := (e_X12_come_46 g n a x1 x2 x3 x4 x5 x6 x7 x8).symm.trans hf
      refine lv_iload hx hb dX12_come_46 (lv_at hl 8 rfl) ?_
      refine lv_iload hx hb dX12_come_48 (lv_at hl 6 rfl) ?_
      refine lv_icmp_ge (tgt := 87) hx hb dX12_come_50 (by decide) (fun c5 => ?_) (fun c5 => ?_)
      · replace hf := (if_pos c5).symm.trans hf
        refine lv_iload hx hb dX12_come_87 (lv_at hl 7 rfl) ?_
        exact xi_retS (fr := (fun r => r.1)) (fw := (fun r => wM E g r.2)) hx hb hr hlocks (Option.some.inj hf) hP hS dX12_come_89
      · replace hf := (if_neg c5).symm.trans hf
        refine lv_aload_n hx hb dX12_come_53 rfl (lv_at hl 0 rfl) ?_
        refine lv_iload hx hb dX12_come_54 (lv_at hl 8 rfl) ?_
        refine lv_iload_n hx hb dX12_come_56 rfl (lv_at hl 2 rfl) ?_
        refine lv_iload hx hb dX12_come_57 (lv_at hl 5 rfl) ?_
        refine lv_iload hx hb dX12_come_59 (lv_at hl 4 rfl) ?_
        obtain ⟨u6, e7, hf⟩ := bd_some hf
        refine xci (xRunV (rest := []) (As := [.int x8, .int x2, .int x5, .int x4]) (C := RX12) (k := 4) C0 (c_X12_picksBy l E g a x8 x2 x5 x4 e7) bw826 bw828 bw778 bw829 bw830 hd_X12_picksBy ⟨Nat.le_of_ble_eq_true rfl, Nat.le_of_ble_eq_true rfl⟩ hP (wM_D hD) hS (va_recv hK hP (ci := 12) rfl (gm_0 E g a)) rfl hl.1 rfl (Nat.le_of_ble_eq_true rfl) dX12_come_61 ⟨Nat.zero_le _, Nat.zero_le _⟩) hS (fun H locs hP hS => ?_)
        refine lv_if_eq (tgt := 81) hx hb dX12_come_64 (by decide) (fun c8 => ?_) (fun c8 => ?_)
        · replace hf := (if_pos c8).symm.trans hf
          refine lv_iinc (v := (x8 + 1)) (lv' := [(8, .int (x8 + 1)), (0, .ref (E.2.1 0)), (1, .int x1), (2, .int x2), (3, .int x3), (4, .int x4), (5, .int x5), (6, .int x6), (7, .int x7)]) hx hb dX12_come_81 hl (k := 8) rfl rfl (by decide) rfl (fun ls hl => ?_)
          refine lv_goto (tgt := 46) hx hb dX12_come_84 (by decide) ?_
          exact ih u6.2 x1 x2 x3 x4 x5 x6 x7 (x8 + 1) _ _ _ hP hS (lv_sub hl [1, 2, 3, 4, 5, 6, 7, 8, 0] rfl) hf
        · replace hf := (if_neg c8).symm.trans hf
          refine lv_iload hx hb dX12_come_67 (lv_at hl 7 rfl) ?_
          refine lv_iconst (v := 1) hx hb dX12_come_69 (by decide) ?_
          refine lv_aload_n hx hb dX12_come_70 rfl (lv_at hl 0 rfl) ?_
          refine lv_iload_n hx hb dX12_come_71 rfl (lv_at hl 1 rfl) ?_
          refine lv_iload_n hx hb dX12_come_72 rfl (lv_at hl 2 rfl) ?_
          refine lv_iload_n hx hb dX12_come_73 rfl (lv_at hl 3 rfl) ?_
          obtain ⟨u9, e10, hf⟩ := bd_some hf
          refine xci (xRunV (rest := [.int 1, .int x7]) (As := [.int x1, .int x2, .int x3]) (C := RX12) (k := 3) C0 (c_X12_applied l E g u6.2 x1 x2 x3 e10) bw822 bw831 bw778 bw832 bw833 hd_X12_applied ⟨Nat.le_of_ble_eq_true rfl, Nat.le_of_ble_eq_true rfl⟩ hP (wM_D hD) hS (va_recv hK hP (ci := 12) rfl (gm_0 E g u6.2)) rfl hl.1 rfl (Nat.le_of_ble_eq_true rfl) dX12_come_74 ⟨Nat.zero_le _, Nat.zero_le _⟩) hS (fun H locs hP hS => ?_)
          refine lv_ishl hx hb dX12_come_77 ?_
          refine lv_ior hx hb dX12_come_78 ?_
          refine lv_istore (lv' := [(7, .int (x7 ||| ((1 : Int32) <<< (u9 &&& 31)))), (0, .ref (E.2.1 0)), (1, .int x1), (2, .int x2), (3, .int x3), (4, .int x4), (5, .int x5), (6, .int x6), (8, .int x8)]) hx hb dX12_come_79 hl (by decide) rfl (fun ls hl => ?_)
          refine lv_iinc (v := (x8 + 1)) (lv' := [(8, .int (x8 + 1)), (7, .int (x7 ||| ((1 : Int32) <<< (u9 &&& 31)))), (0, .ref (E.2.1 0)), (1, .int x1), (2, .int x2), (3, .int x3), (4, .int x4), (5, .int x5), (6, .int x6)]) hx hb dX12_come_81 hl (k := 8) rfl rfl (by decide) rfl (fun ls hl => ?_)
          refine lv_goto (tgt := 46) hx hb dX12_come_84 (by decide) ?_
          exact ih u6.2 x1 x2 x3 x4 x5 x6 (x7 ||| ((1 : Int32) <<< (u9 &&& 31))) (x8 + 1) _ _ _ hP hS (lv_sub hl [2, 3, 4, 5, 6, 7, 8, 1, 0] rfl) hf
  refine lv_aload_n hx hb dX12_come_0 rfl (lv_at hl 0 rfl) ?_
  refine lv_iload_n hx hb dX12_come_1 rfl (lv_at hl 3 rfl) ?_
  obtain ⟨u1, e2, hf⟩ := bd_some hf
  refine xci (xRunV (rest := []) (As := [.int v3]) (C := RX12) (k := 1) C0 (c_X12_power l E g a v3 e2) bw773 bw775 bw778 bw776 bw777 hd_X12_power ⟨Nat.le_of_ble_eq_true rfl, Nat.le_of_ble_eq_true rfl⟩ hP (wM_D hD) hS (va_recv hK hP (ci := 12) rfl (gm_0 E g a)) rfl hl.1 rfl (Nat.le_of_ble_eq_true rfl) dX12_come_2 ⟨Nat.zero_le _, Nat.zero_le _⟩) hS (fun H locs hP hS => ?_)
  refine lv_istore (lv' := [(5, .int u1), (0, .ref (E.2.1 0)), (1, .int v1), (2, .int v2), (3, .int v3), (4, .int v4)]) hx hb dX12_come_5 hl (by decide) rfl (fun ls hl => ?_)
  refine lv_iload_n hx hb dX12_come_7 rfl (lv_at hl 3 rfl) ?_
  refine lv_iconst (v := 1) hx hb dX12_come_8 (by decide) ?_
  refine lv_icmp_ne (tgt := 17) hx hb dX12_come_9 (by decide) (fun c3 => ?_) (fun c3 => ?_)
  · replace hf := (if_neg c3).symm.trans hf
    refine lv_iload_n hx hb dX12_come_17 rfl (lv_at hl 3 rfl) ?_
    refine lv_iconst (v := 2) hx hb dX12_come_18 (by decide) ?_
    refine lv_icmp_ne (tgt := 30) hx hb dX12_come_19 (by decide) (fun c4 => ?_) (fun c4 => ?_)
    · replace hf := (if_neg c4).symm.trans hf
      refine lv_iload hx hb dX12_come_30 (lv_at hl 0 rfl) ?_
      refine lv_iload hx hb dX12_come_32 (lv_at hl 0 rfl) ?_
      refine lv_imul hx hb dX12_come_34 ?_
      refine lv_iload hx hb dX12_come_35 (lv_at hl 0 rfl) ?_
      refine lv_imul hx hb dX12_come_37 ?_
      refine lv_istore (lv' := [(6, .int ((u1 * u1) * u1)), (5, .int u1), (0, .ref (E.2.1 0)), (1, .int v1), (2, .int v2), (3, .int v3), (4, .int v4)]) hx hb dX12_come_38 hl (by decide) rfl (fun ls hl => ?_)
      refine lv_iconst (v := 0) hx hb dX12_come_40 (by decide) ?_
      refine lv_istore (lv' := [(7, .int 0), (6, .int ((u1 * u1) * u1)), (5, .int u1), (0, .ref (E.2.1 0)), (1, .int v1), (2, .int v2), (3, .int v3), (4, .int v4)]) hx hb dX12_come_41 hl (by decide) rfl (fun ls hl => ?_)
      refine lv_iconst (v := 0) hx hb dX12_come_43 (by decide) ?_
      refine lv_istore (lv' := [(8, .int 0), (7, .int 0), (6, .int ((u1 * u1) * u1)), (5, .int u1), (0, .ref (E.2.1 0)), (1, .int v1), (2, .int v2), (3, .int v3), (4, .int v4)]) hx hb dX12_come_44 hl (by decide) rfl (fun ls hl => ?_)
      exact B46 fu a v1 v2 v3 v4 u1 ((u1 * u1) * u1) 0 0 _ _ _ hP hS (lv_sub hl [4, 5, 6, 7, 8, 3, 2, 1, 0] rfl) hf
    · replace hf := (if_pos c4).symm.trans hf
      refine lv_iload hx hb dX12_come_22 (lv_at hl 0 rfl) ?_
      refine lv_iload hx hb dX12_come_24 (lv_at hl 0 rfl) ?_
      refine lv_imul hx hb dX12_come_26 ?_
      refine lv_goto (tgt := 38) hx hb dX12_come_27 (by decide) ?_
      refine lv_istore (lv' := [(6, .int (u1 * u1)), (5, .int u1), (0, .ref (E.2.1 0)), (1, .int v1), (2, .int v2), (3, .int v3), (4, .int v4)]) hx hb dX12_come_38 hl (by decide) rfl (fun ls hl => ?_)
      refine lv_iconst (v := 0) hx hb dX12_come_40 (by decide) ?_
      refine lv_istore (lv' := [(7, .int 0), (6, .int (u1 * u1)), (5, .int u1), (0, .ref (E.2.1 0)), (1, .int v1), (2, .int v2), (3, .int v3), (4, .int v4)]) hx hb dX12_come_41 hl (by decide) rfl (fun ls hl => ?_)
      refine lv_iconst (v := 0) hx hb dX12_come_43 (by decide) ?_
      refine lv_istore (lv' := [(8, .int 0), (7, .int 0), (6, .int (u1 * u1)), (5, .int u1), (0, .ref (E.2.1 0)), (1, .int v1), (2, .int v2), (3, .int v3), (4, .int v4)]) hx hb dX12_come_44 hl (by decide) rfl (fun ls hl => ?_)
      exact B46 fu a v1 v2 v3 v4 u1 (u1 * u1) 0 0 _ _ _ hP hS (lv_sub hl [4, 5, 6, 7, 8, 3, 2, 1, 0] rfl) hf
  · replace hf := (if_pos c3).symm.trans hf
    refine lv_iload hx hb dX12_come_12 (lv_at hl 0 rfl) ?_
    refine lv_goto (tgt := 38) hx hb dX12_come_14 (by decide) ?_
    refine lv_istore (lv' := [(6, .int u1), (5, .int u1), (0, .ref (E.2.1 0)), (1, .int v1), (2, .int v2), (3, .int v3), (4, .int v4)]) hx hb dX12_come_38 hl (by decide) rfl (fun ls hl => ?_)
    refine lv_iconst (v := 0) hx hb dX12_come_40 (by decide) ?_
    refine lv_istore (lv' := [(7, .int 0), (6, .int u1), (5, .int u1), (0, .ref (E.2.1 0)), (1, .int v1), (2, .int v2), (3, .int v3), (4, .int v4)]) hx hb dX12_come_41 hl (by decide) rfl (fun ls hl => ?_)
    refine lv_iconst (v := 0) hx hb dX12_come_43 (by decide) ?_
    refine lv_istore (lv' := [(8, .int 0), (7, .int 0), (6, .int u1), (5, .int u1), (0, .ref (E.2.1 0)), (1, .int v1), (2, .int v2), (3, .int v3), (4, .int v4)]) hx hb dX12_come_44 hl (by decide) rfl (fun ls hl => ?_)
    exact B46 fu a v1 v2 v3 v4 u1 u1 0 0 _ _ _ hP hS (lv_sub hl [4, 5, 6, 7, 8, 3, 2, 1, 0] rfl) hf
def f_X12_doesKeep (g : xG) (a : xA) (v1 : Int32) (v2 : Int32) (v3 : Int32) : Option (Int32 × xA) := ck (inB v3 8) (ck (inB v3 8) (Option.bind (f_X12_come g a v1 v2 (a 1 (v3 : Int32).toNatClampNeg) (a 2 (v3 : Int32).toNatClampNeg)) (fun u3 => ck (inB v3 8) ((if (u3.1 &&& ((u3.2 2 (v3 : Int32).toNatClampNeg) ^^^ (-1))) = 0 then some (1, u3.2) else some (0, u3.2))))))
set_option maxRecDepth 100000 in
set_option maxHeartbeats 40000000 in
theorem c_X12_doesKeep (l : Launch) (E : xE) (g : xG) (a : xA) (v1 : Int32) (v2 : Int32) (v3 : Int32) {res : Int32 × xA} (hf : f_X12_doesKeep g a v1 v2 v3 = some res) : xM l E yX12_doesKeep cX12_doesKeep 4 (some .boolean) 4 100 [.ref (E.2.1 0), .int v1, .int v2, .int v3] (wM E g a) (xQi E res.1 (wM E g res.2)) := by
  unfold f_X12_doesKeep at hf
  refine xM_of (by decide) (Nat.le_of_ble_eq_true rfl) ?_
  intro p e s m below meth c A hx hb hr hml hts hown hlocks hA hD hP hK hN hS ls hl
  have hw : ∀ w ∈ BW, w.before _ s = true := fun w h => hts w (List.mem_cons_of_mem _ h)
  have C0 : xCtx E p m c cX12_doesKeep 4 s _ RX12 A yX12_doesKeep cX12_doesKeep 4 (some .boolean) := ⟨hx, hb, hml, hown, hts, hA, hK, hN⟩
  have hl : lv_has ls 4 [(0, .ref (E.2.1 0)), (1, .int v1), (2, .int v2), (3, .int v3)] := hl
  refine lv_aload_n hx hb dX12_doesKeep_0 rfl (lv_at hl 0 rfl) ?_
  refine lv_iload_n hx hb dX12_doesKeep_1 rfl (lv_at hl 1 rfl) ?_
  refine lv_iload_n hx hb dX12_doesKeep_2 rfl (lv_at hl 2 rfl) ?_
  refine lv_aload_n hx hb dX12_doesKeep_3 rfl (lv_at hl 0 rfl) ?_
  refine va_get (C := RX12) (T := TX12) (N := 22) hx hb hw bfX120 hown hK hP 0 (gm_0 E g a) rfl 2 (by decide) (hw _ bw756) (fun _ h9 => h9) rfl dX12_doesKeep_4 ?_
  refine lv_iload_n hx hb dX12_doesKeep_7 rfl (lv_at hl 3 rfl) ?_
  obtain ⟨k1, hf⟩ := ck_some hf
  refine va_iald hx hb hK hP 1 0 (gm_1 E g a) rfl (inB_in k1) dX12_doesKeep_8 ?_
  refine lv_aload_n hx hb dX12_doesKeep_9 rfl (lv_at hl 0 rfl) ?_
  refine va_get (C := RX12) (T := TX12) (N := 22) hx hb hw bfX120 hown hK hP 0 (gm_0 E g a) rfl 3 (by decide) (hw _ bw757) (fun _ h9 => h9) rfl dX12_doesKeep_10 ?_
  refine lv_iload_n hx hb dX12_doesKeep_13 rfl (lv_at hl 3 rfl) ?_
  obtain ⟨k2, hf⟩ := ck_some hf
  refine va_iald hx hb hK hP 2 0 (gm_2 E g a) rfl (inB_in k2) dX12_doesKeep_14 ?_
  obtain ⟨u3, e4, hf⟩ := bd_some hf
  refine xci (xRunV (rest := []) (As := [.int v1, .int v2, .int (a 1 (v3 : Int32).toNatClampNeg), .int (a 2 (v3 : Int32).toNatClampNeg)]) (C := RX12) (k := 4) C0 (c_X12_come l E g a v1 v2 (a 1 (v3 : Int32).toNatClampNeg) (a 2 (v3 : Int32).toNatClampNeg) e4) bw827 bw834 bw778 bw835 bw836 hd_X12_come ⟨Nat.le_of_ble_eq_true rfl, Nat.le_of_ble_eq_true rfl⟩ hP (wM_D hD) hS (va_recv hK hP (ci := 12) rfl (gm_0 E g a)) rfl hl.1 rfl (Nat.le_of_ble_eq_true rfl) dX12_doesKeep_15 ⟨Nat.zero_le _, Nat.zero_le _⟩) hS (fun H locs hP hS => ?_)
  refine lv_aload_n hx hb dX12_doesKeep_18 rfl (lv_at hl 0 rfl) ?_
  refine va_get (C := RX12) (T := TX12) (N := 22) hx hb hw bfX120 hown hK hP 0 (gm_0 E g u3.2) rfl 3 (by decide) (hw _ bw757) (fun _ h9 => h9) rfl dX12_doesKeep_19 ?_
  refine lv_iload_n hx hb dX12_doesKeep_22 rfl (lv_at hl 3 rfl) ?_
  obtain ⟨k5, hf⟩ := ck_some hf
  refine va_iald hx hb hK hP 2 0 (gm_2 E g u3.2) rfl (inB_in k5) dX12_doesKeep_23 ?_
  refine lv_iconst (v := (-1)) hx hb dX12_doesKeep_24 (by decide) ?_
  refine lv_ixor hx hb dX12_doesKeep_25 ?_
  refine lv_iand hx hb dX12_doesKeep_26 ?_
  refine lv_if_ne (tgt := 34) hx hb dX12_doesKeep_27 (by decide) (fun c6 => ?_) (fun c6 => ?_)
  · replace hf := (if_neg c6).symm.trans hf
    refine lv_iconst (v := 0) hx hb dX12_doesKeep_34 (by decide) ?_
    exact xz_retS (fr := (fun r => r.1)) (fw := (fun r => wM E g r.2)) hx hb hr hlocks (Option.some.inj hf) nz0 hP hS dX12_doesKeep_35
  · replace hf := (if_pos c6).symm.trans hf
    refine lv_iconst (v := 1) hx hb dX12_doesKeep_30 (by decide) ?_
    refine lv_goto (tgt := 35) hx hb dX12_doesKeep_31 (by decide) ?_
    exact xz_retS (fr := (fun r => r.1)) (fw := (fun r => wM E g r.2)) hx hb hr hlocks (Option.some.inj hf) nz1 hP hS dX12_doesKeep_35
def f_X12_keepsAll_5 (g : xG) : Nat → xA → Int32 → Int32 → Int32 → Int32 → Option (Int32 × xA)
  | 0, _, _, _, _, _ => none
  | n + 1, a, x1, x2, x3, x4 => (if (g 1) ≤ x4 then ck (boB x3) (some (x3, a)) else (if x3 = 0 then ck (boB x3) (some (x3, a)) else Option.bind (f_X12_doesKeep g a x1 x2 x4) (fun u5 => f_X12_keepsAll_5 g n u5.2 x1 x2 u5.1 (x4 + 1))))
theorem e_X12_keepsAll_5 (g : xG) (n : Nat) (a : xA) (x1 : Int32) (x2 : Int32) (x3 : Int32) (x4 : Int32) : f_X12_keepsAll_5 g (n + 1) a x1 x2 x3 x4 = (if (g 1) ≤ x4 then ck (boB x3) (some (x3, a)) else (if x3 = 0 then ck (boB x3) (some (x3, a)) else Option.bind (f_X12_doesKeep g a x1 x2 x4) (fun u5 => f_X12_keepsAll_5 g n u5.2 x1 x2 u5.1 (x4 + 1)))) := rfl
def f_X12_keepsAll (g : xG) (a : xA) (v1 : Int32) (v2 : Int32) : Option (Int32 × xA) := f_X12_keepsAll_5 g fu a v1 v2 1 0
set_option maxRecDepth 100000 in
set_option maxHeartbeats 40000000 in
theorem c_X12_keepsAll (l : Launch) (E : xE) (g : xG) (a : xA) (v1 : Int32) (v2 : Int32) {res : Int32 × xA} (hf : f_X12_keepsAll g a v1 v2 = some res) : xM l E yX12_keepsAll cX12_keepsAll 5 (some .boolean) 5 123 [.ref (E.2.1 0), .int v1, .int v2] (wM E g a) (xQi E res.1 (wM E g res.2)) := by
  unfold f_X12_keepsAll at hf
  refine xM_of (by decide) (Nat.le_of_ble_eq_true rfl) ?_
  intro p e s m below meth c A hx hb hr hml hts hown hlocks hA hD hP hK hN hS ls hl
  have hw : ∀ w ∈ BW, w.before _ s = true := fun w h => hts w (List.mem_cons_of_mem _ h)
  have C0 : xCtx E p m c cX12_keepsAll 5 s _ RX12 A yX12_keepsAll cX12_keepsAll 5 (some .boolean) := ⟨hx, hb, hml, hown, hts, hA, hK, hN⟩
  have hl : lv_has ls 5 [(0, .ref (E.2.1 0)), (1, .int v1), (2, .int v2)] := hl
  have B5 : ∀ (n : Nat) (a : xA) (x1 : Int32) (x2 : Int32) (x3 : Int32) (x4 : Int32) (H : Heap) (locs : List Loc) (ls : Array Slot), va_P E.1 vwCl (wM E g a) H → va_S A s.heap H locs → lv_has ls 5 [(0, .ref (E.2.1 0)), (1, .int x1), (2, .int x2), (3, .int x3), (4, .int x4)] → f_X12_keepsAll_5 g n a x1 x2 x3 x4 = some res → W p l e ({ frames := 5, cells := 0, slots := 0, locals := 123 }) s m ([.ref (E.2.1 0), .int v1, .int v2] : List Value).toArray below meth c H locs 0 0 (MQ below ((xQi E res.1 (wM E g res.2)) A) ([.ref (E.2.1 0), .int v1, .int v2] : List Value).toArray s 0 0 A) (F0 m 5 ls []) := by
    intro n
    induction n with
    | zero => intro a x1 x2 x3 x4 H locs ls hP hS hl hf; exact absurd (show (none : Option (Int32 × xA)) = some res from hf) (by intro h; cases h)
    | succ n ih =>
      intro a x1 x2 x3 x4 H locs ls hP hS hl hf
      replace hf := (e_X12_keepsAll_5 g n a x1 x2 x3 x4).symm.trans hf
      refine lv_iload hx hb dX12_keepsAll_5 (lv_at hl 4 rfl) ?_
      refine lv_aload_n hx hb dX12_keepsAll_7 rfl (lv_at hl 0 rfl) ?_
      refine va_get (C := RX12) (T := TX12) (N := 22) hx hb hw bfX120 hown hK hP 0 (gm_0 E g a) rfl 1 (by decide) (hw _ bw782) (fun _ h9 => h9) rfl dX12_keepsAll_8 ?_
      refine lv_icmp_ge (tgt := 33) hx hb dX12_keepsAll_11 (by decide) (fun c1 => ?_) (fun c1 => ?_)
      · replace hf := (if_pos c1).symm.trans hf
        refine lv_iload_n hx hb dX12_keepsAll_33 rfl (lv_at hl 3 rfl) ?_
        obtain ⟨k2, hf⟩ := ck_some hf
        exact xz_retS (fr := (fun r => r.1)) (fw := (fun r => wM E g r.2)) hx hb hr hlocks (Option.some.inj hf) (boB_bo k2) hP hS dX12_keepsAll_34
      · replace hf := (if_neg c1).symm.trans hf
        refine lv_iload_n hx hb dX12_keepsAll_14 rfl (lv_at hl 3 rfl) ?_
        refine lv_if_eq (tgt := 33) hx hb dX12_keepsAll_15 (by decide) (fun c3 => ?_) (fun c3 => ?_)
        · replace hf := (if_pos c3).symm.trans hf
          refine lv_iload_n hx hb dX12_keepsAll_33 rfl (lv_at hl 3 rfl) ?_
          obtain ⟨k4, hf⟩ := ck_some hf
          exact xz_retS (fr := (fun r => r.1)) (fw := (fun r => wM E g r.2)) hx hb hr hlocks (Option.some.inj hf) (boB_bo k4) hP hS dX12_keepsAll_34
        · replace hf := (if_neg c3).symm.trans hf
          refine lv_aload_n hx hb dX12_keepsAll_18 rfl (lv_at hl 0 rfl) ?_
          refine lv_iload_n hx hb dX12_keepsAll_19 rfl (lv_at hl 1 rfl) ?_
          refine lv_iload_n hx hb dX12_keepsAll_20 rfl (lv_at hl 2 rfl) ?_
          refine lv_iload hx hb dX12_keepsAll_21 (lv_at hl 4 rfl) ?_
          obtain ⟨u5, e6, hf⟩ := bd_some hf
          refine xci (xRunV (rest := []) (As := [.int x1, .int x2, .int x4]) (C := RX12) (k := 3) C0 (c_X12_doesKeep l E g a x1 x2 x4 e6) bw837 bw838 bw778 bw839 bw840 hd_X12_doesKeep ⟨Nat.le_of_ble_eq_true rfl, Nat.le_of_ble_eq_true rfl⟩ hP (wM_D hD) hS (va_recv hK hP (ci := 12) rfl (gm_0 E g a)) rfl hl.1 rfl (Nat.le_of_ble_eq_true rfl) dX12_keepsAll_23 ⟨Nat.zero_le _, Nat.zero_le _⟩) hS (fun H locs hP hS => ?_)
          refine lv_istore_n (lv' := [(3, .int u5.1), (0, .ref (E.2.1 0)), (1, .int x1), (2, .int x2), (4, .int x4)]) hx hb dX12_keepsAll_26 rfl hl (by decide) rfl (fun ls hl => ?_)
          refine lv_iinc (v := (x4 + 1)) (lv' := [(4, .int (x4 + 1)), (3, .int u5.1), (0, .ref (E.2.1 0)), (1, .int x1), (2, .int x2)]) hx hb dX12_keepsAll_27 hl (k := 4) rfl rfl (by decide) rfl (fun ls hl => ?_)
          refine lv_goto (tgt := 5) hx hb dX12_keepsAll_30 (by decide) ?_
          exact ih u5.2 x1 x2 u5.1 (x4 + 1) _ _ _ hP hS (lv_sub hl [2, 3, 4, 1, 0] rfl) hf
  refine lv_iconst (v := 1) hx hb dX12_keepsAll_0 (by decide) ?_
  refine lv_istore_n (lv' := [(3, .int 1), (0, .ref (E.2.1 0)), (1, .int v1), (2, .int v2)]) hx hb dX12_keepsAll_1 rfl hl (by decide) rfl (fun ls hl => ?_)
  refine lv_iconst (v := 0) hx hb dX12_keepsAll_2 (by decide) ?_
  refine lv_istore (lv' := [(4, .int 0), (3, .int 1), (0, .ref (E.2.1 0)), (1, .int v1), (2, .int v2)]) hx hb dX12_keepsAll_3 hl (by decide) rfl (fun ls hl => ?_)
  exact B5 fu a v1 v2 1 0 _ _ _ hP hS (lv_sub hl [2, 3, 4, 1, 0] rfl) hf
def f_X12_areBoth_22 (a : xA) (g : xG) (s0 : Int32) : Option (Int32 × xG) := (if ((upd g 8 s0) 8) = 0 then some (1, (upd g 8 s0)) else some (0, (upd g 8 s0)))
def f_X12_areBoth (g : xG) (a : xA) (v1 : Int32) (v2 : Int32) : Option (Int32 × xG) := Option.bind (f_X12_isOperation g a v1) (fun u1 => (if u1 = 0 then f_X12_areBoth_22 a g 1 else Option.bind (f_X12_isRelation g a v2) (fun u4 => (if u4 = 0 then f_X12_areBoth_22 a g 1 else f_X12_areBoth_22 a g 0))))
set_option maxRecDepth 100000 in
set_option maxHeartbeats 40000000 in
theorem c_X12_areBoth (l : Launch) (E : xE) (g : xG) (a : xA) (v1 : Int32) (v2 : Int32) {res : Int32 × xG} (hf : f_X12_areBoth g a v1 v2 = some res) : xM l E yX12_areBoth cX12_areBoth 3 (some .boolean) 2 43 [.ref (E.2.1 0), .int v1, .int v2] (wM E g a) (xQi E res.1 (wM E res.2 a)) := by
  unfold f_X12_areBoth at hf
  refine xM_of (by decide) (Nat.le_of_ble_eq_true rfl) ?_
  intro p e s m below meth c A hx hb hr hml hts hown hlocks hA hD hP hK hN hS ls hl
  have hw : ∀ w ∈ BW, w.before _ s = true := fun w h => hts w (List.mem_cons_of_mem _ h)
  have C0 : xCtx E p m c cX12_areBoth 3 s _ RX12 A yX12_areBoth cX12_areBoth 3 (some .boolean) := ⟨hx, hb, hml, hown, hts, hA, hK, hN⟩
  have hl : lv_has ls 3 [(0, .ref (E.2.1 0)), (1, .int v1), (2, .int v2)] := hl
  have B22 : ∀ (g : xG) (s0 : Int32) (H : Heap) (locs : List Loc) (ls : Array Slot), va_P E.1 vwCl (wM E g a) H → va_S A s.heap H locs → lv_has ls 3 [(0, .ref (E.2.1 0))] → f_X12_areBoth_22 a g s0 = some res → W p l e ({ frames := 2, cells := 0, slots := 0, locals := 43 }) s m ([.ref (E.2.1 0), .int v1, .int v2] : List Value).toArray below meth c H locs 0 0 (MQ below ((xQi E res.1 (wM E res.2 a)) A) ([.ref (E.2.1 0), .int v1, .int v2] : List Value).toArray s 0 0 A) (F0 m 22 ls [.int s0, .ref (E.2.1 0)]) := by
    intro g s0 H locs ls hP hS hl hf
    unfold f_X12_areBoth_22 at hf
    refine va_put (v := .int s0) (ty := .int) (C := RX12) (T := TX12) (N := 22) hx hb hw bfX120 tyX12 tyX12_ok nmX12 hown hK hP (wM_D hD) hS 0 (gm_0 E g a) rfl 21 (by decide) (hw _ bw771) (fun _ h9 => h9) rfl (by decide +kernel) rfl rfl (Nat.le_of_ble_eq_true rfl) dX12_areBoth_22 (fun H locs hP _ hS => ?_)
    have hP := xP_eq (sm_g8 E g a s0) hP
    refine lv_aload_n hx hb dX12_areBoth_25 rfl (lv_at hl 0 rfl) ?_
    refine va_get (C := RX12) (T := TX12) (N := 22) hx hb hw bfX120 hown hK hP 0 (gm_0 E (upd g 8 s0) a) rfl 21 (by decide) (hw _ bw771) (fun _ h9 => h9) rfl dX12_areBoth_26 ?_
    refine lv_if_ne (tgt := 36) hx hb dX12_areBoth_29 (by decide) (fun c7 => ?_) (fun c7 => ?_)
    · replace hf := (if_neg c7).symm.trans hf
      refine lv_iconst (v := 0) hx hb dX12_areBoth_36 (by decide) ?_
      exact xz_retS (fr := (fun r => r.1)) (fw := (fun r => wM E r.2 a)) hx hb hr hlocks (Option.some.inj hf) nz0 hP hS dX12_areBoth_37
    · replace hf := (if_pos c7).symm.trans hf
      refine lv_iconst (v := 1) hx hb dX12_areBoth_32 (by decide) ?_
      refine lv_goto (tgt := 37) hx hb dX12_areBoth_33 (by decide) ?_
      exact xz_retS (fr := (fun r => r.1)) (fw := (fun r => wM E r.2 a)) hx hb hr hlocks (Option.some.inj hf) nz1 hP hS dX12_areBoth_37
  refine lv_aload_n hx hb dX12_areBoth_0 rfl (lv_at hl 0 rfl) ?_
  refine lv_aload_n hx hb dX12_areBoth_1 rfl (lv_at hl 0 rfl) ?_
  refine lv_iload_n hx hb dX12_areBoth_2 rfl (lv_at hl 1 rfl) ?_
  obtain ⟨u1, e2, hf⟩ := bd_some hf
  refine xci (xRunV (rest := [.ref (E.2.1 0)]) (As := [.int v1]) (C := RX12) (k := 1) C0 (c_X12_isOperation l E g a v1 e2) bw812 bw814 bw778 bw815 bw816 hd_X12_isOperation ⟨Nat.le_of_ble_eq_true rfl, Nat.le_of_ble_eq_true rfl⟩ hP (wM_D hD) hS (va_recv hK hP (ci := 12) rfl (gm_0 E g a)) rfl hl.1 rfl (Nat.le_of_ble_eq_true rfl) dX12_areBoth_3 ⟨Nat.zero_le _, Nat.zero_le _⟩) hS (fun H locs hP hS => ?_)
  refine lv_if_eq (tgt := 21) hx hb dX12_areBoth_6 (by decide) (fun c3 => ?_) (fun c3 => ?_)
  · replace hf := (if_pos c3).symm.trans hf
    refine lv_iconst (v := 1) hx hb dX12_areBoth_21 (by decide) ?_
    exact B22 g 1 _ _ _ hP hS (lv_sub hl [0] rfl) hf
  · replace hf := (if_neg c3).symm.trans hf
    refine lv_aload_n hx hb dX12_areBoth_9 rfl (lv_at hl 0 rfl) ?_
    refine lv_iload_n hx hb dX12_areBoth_10 rfl (lv_at hl 2 rfl) ?_
    obtain ⟨u4, e5, hf⟩ := bd_some hf
    refine xci (xRunV (rest := [.ref (E.2.1 0)]) (As := [.int v2]) (C := RX12) (k := 1) C0 (c_X12_isRelation l E g a v2 e5) bw788 bw790 bw778 bw791 bw792 hd_X12_isRelation ⟨Nat.le_of_ble_eq_true rfl, Nat.le_of_ble_eq_true rfl⟩ hP (wM_D hD) hS (va_recv hK hP (ci := 12) rfl (gm_0 E g a)) rfl hl.1 rfl (Nat.le_of_ble_eq_true rfl) dX12_areBoth_11 ⟨Nat.zero_le _, Nat.zero_le _⟩) hS (fun H locs hP hS => ?_)
    refine lv_if_eq (tgt := 21) hx hb dX12_areBoth_14 (by decide) (fun c6 => ?_) (fun c6 => ?_)
    · replace hf := (if_pos c6).symm.trans hf
      refine lv_iconst (v := 1) hx hb dX12_areBoth_21 (by decide) ?_
      exact B22 g 1 _ _ _ hP hS (lv_sub hl [0] rfl) hf
    · replace hf := (if_neg c6).symm.trans hf
      refine lv_iconst (v := 0) hx hb dX12_areBoth_17 (by decide) ?_
      refine lv_goto (tgt := 22) hx hb dX12_areBoth_18 (by decide) ?_
      exact B22 g 0 _ _ _ hP hS (lv_sub hl [0] rfl) hf
def f_X12_keeps (g : xG) (a : xA) (v1 : Int32) (v2 : Int32) : Option (Int32 × xG × xA) := Option.bind (f_X12_areBoth g a v1 v2) (fun u1 => (if u1.1 = 0 then some (0, u1.2, a) else ck (inB v1 6) (Option.bind (f_X12_doesKeep u1.2 a v1 (a 3 (v1 : Int32).toNatClampNeg) v2) (fun u5 => (if u5.1 = 0 then some (0, u1.2, u5.2) else some (1, u1.2, u5.2))))))
set_option maxRecDepth 100000 in
set_option maxHeartbeats 40000000 in
theorem c_X12_keeps (l : Launch) (E : xE) (g : xG) (a : xA) (v1 : Int32) (v2 : Int32) {res : Int32 × xG × xA} (hf : f_X12_keeps g a v1 v2 = some res) : xM l E yX12_keeps cX12_keeps 3 (some .boolean) 5 123 [.ref (E.2.1 0), .int v1, .int v2] (wM E g a) (xQi E res.1 (wM E res.2.1 res.2.2)) := by
  unfold f_X12_keeps at hf
  refine xM_of (by decide) (Nat.le_of_ble_eq_true rfl) ?_
  intro p e s m below meth c A hx hb hr hml hts hown hlocks hA hD hP hK hN hS ls hl
  have hw : ∀ w ∈ BW, w.before _ s = true := fun w h => hts w (List.mem_cons_of_mem _ h)
  have C0 : xCtx E p m c cX12_keeps 3 s _ RX12 A yX12_keeps cX12_keeps 3 (some .boolean) := ⟨hx, hb, hml, hown, hts, hA, hK, hN⟩
  have hl : lv_has ls 3 [(0, .ref (E.2.1 0)), (1, .int v1), (2, .int v2)] := hl
  refine lv_aload_n hx hb dX12_keeps_0 rfl (lv_at hl 0 rfl) ?_
  refine lv_iload_n hx hb dX12_keeps_1 rfl (lv_at hl 1 rfl) ?_
  refine lv_iload_n hx hb dX12_keeps_2 rfl (lv_at hl 2 rfl) ?_
  obtain ⟨u1, e2, hf⟩ := bd_some hf
  refine xci (xRunV (rest := []) (As := [.int v1, .int v2]) (C := RX12) (k := 2) C0 (c_X12_areBoth l E g a v1 v2 e2) bw842 bw843 bw778 bw844 bw845 hd_X12_areBoth ⟨Nat.le_of_ble_eq_true rfl, Nat.le_of_ble_eq_true rfl⟩ hP (wM_D hD) hS (va_recv hK hP (ci := 12) rfl (gm_0 E g a)) rfl hl.1 rfl (Nat.le_of_ble_eq_true rfl) dX12_keeps_3 ⟨Nat.zero_le _, Nat.zero_le _⟩) hS (fun H locs hP hS => ?_)
  refine lv_if_eq (tgt := 28) hx hb dX12_keeps_6 (by decide) (fun c3 => ?_) (fun c3 => ?_)
  · replace hf := (if_pos c3).symm.trans hf
    refine lv_iconst (v := 0) hx hb dX12_keeps_28 (by decide) ?_
    exact xz_retS (fr := (fun r => r.1)) (fw := (fun r => wM E r.2.1 r.2.2)) hx hb hr hlocks (Option.some.inj hf) nz0 hP hS dX12_keeps_29
  · replace hf := (if_neg c3).symm.trans hf
    refine lv_aload_n hx hb dX12_keeps_9 rfl (lv_at hl 0 rfl) ?_
    refine lv_iload_n hx hb dX12_keeps_10 rfl (lv_at hl 1 rfl) ?_
    refine lv_aload_n hx hb dX12_keeps_11 rfl (lv_at hl 0 rfl) ?_
    refine va_get (C := RX12) (T := TX12) (N := 22) hx hb hw bfX120 hown hK hP 0 (gm_0 E u1.2 a) rfl 5 (by decide) (hw _ bw758) (fun _ h9 => h9) rfl dX12_keeps_12 ?_
    refine lv_iload_n hx hb dX12_keeps_15 rfl (lv_at hl 1 rfl) ?_
    obtain ⟨k4, hf⟩ := ck_some hf
    refine va_iald hx hb hK hP 3 0 (gm_3 E u1.2 a) rfl (inB_in k4) dX12_keeps_16 ?_
    refine lv_iload_n hx hb dX12_keeps_17 rfl (lv_at hl 2 rfl) ?_
    obtain ⟨u5, e6, hf⟩ := bd_some hf
    refine xci (xRunV (rest := []) (As := [.int v1, .int (a 3 (v1 : Int32).toNatClampNeg), .int v2]) (C := RX12) (k := 3) C0 (c_X12_doesKeep l E u1.2 a v1 (a 3 (v1 : Int32).toNatClampNeg) v2 e6) bw837 bw838 bw778 bw839 bw840 hd_X12_doesKeep ⟨Nat.le_of_ble_eq_true rfl, Nat.le_of_ble_eq_true rfl⟩ hP (wM_D hD) hS (va_recv hK hP (ci := 12) rfl (gm_0 E u1.2 a)) rfl hl.1 rfl (Nat.le_of_ble_eq_true rfl) dX12_keeps_18 ⟨Nat.zero_le _, Nat.zero_le _⟩) hS (fun H locs hP hS => ?_)
    refine lv_if_eq (tgt := 28) hx hb dX12_keeps_21 (by decide) (fun c7 => ?_) (fun c7 => ?_)
    · replace hf := (if_pos c7).symm.trans hf
      refine lv_iconst (v := 0) hx hb dX12_keeps_28 (by decide) ?_
      exact xz_retS (fr := (fun r => r.1)) (fw := (fun r => wM E r.2.1 r.2.2)) hx hb hr hlocks (Option.some.inj hf) nz0 hP hS dX12_keeps_29
    · replace hf := (if_neg c7).symm.trans hf
      refine lv_iconst (v := 1) hx hb dX12_keeps_24 (by decide) ?_
      refine lv_goto (tgt := 29) hx hb dX12_keeps_25 (by decide) ?_
      exact xz_retS (fr := (fun r => r.1)) (fw := (fun r => wM E r.2.1 r.2.2)) hx hb hr hlocks (Option.some.inj hf) nz1 hP hS dX12_keeps_29
def f_X12_breaks_47 : Nat → xG → xA → Int32 → Int32 → Option (Int32 × xG × xA)
  | 0, _, _, _, _ => none
  | n + 1, g, a, x3, x4 => (if 9 ≤ x4 then some ((-1), g, a) else (if (t_X12_isIn g a x3 x4) = 0 then f_X12_breaks_47 n g a x3 (x4 + 1) else some (x4, g, a)))
theorem e_X12_breaks_47 (n : Nat) (g : xG) (a : xA) (x3 : Int32) (x4 : Int32) : f_X12_breaks_47 (n + 1) g a x3 x4 = (if 9 ≤ x4 then some ((-1), g, a) else (if (t_X12_isIn g a x3 x4) = 0 then f_X12_breaks_47 n g a x3 (x4 + 1) else some (x4, g, a))) := rfl
def f_X12_breaks (g : xG) (a : xA) (v1 : Int32) (v2 : Int32) : Option (Int32 × xG × xA) := Option.bind (f_X12_areBoth g a v1 v2) (fun u1 => (if u1.1 = 0 then some (0, u1.2, a) else ck (inB v1 6) (ck (inB v2 8) (ck (inB v2 8) (Option.bind (f_X12_come u1.2 a v1 (a 3 (v1 : Int32).toNatClampNeg) (a 1 (v2 : Int32).toNatClampNeg) (a 2 (v2 : Int32).toNatClampNeg)) (fun u7 => ck (inB v2 8) (f_X12_breaks_47 fu u1.2 u7.2 (u7.1 &&& ((u7.2 2 (v2 : Int32).toNatClampNeg) ^^^ (-1))) 0)))))))
set_option maxRecDepth 100000 in
set_option maxHeartbeats 40000000 in
theorem c_X12_breaks (l : Launch) (E : xE) (g : xG) (a : xA) (v1 : Int32) (v2 : Int32) {res : Int32 × xG × xA} (hf : f_X12_breaks g a v1 v2 = some res) : xM l E yX12_breaks cX12_breaks 5 (some .int) 4 100 [.ref (E.2.1 0), .int v1, .int v2] (wM E g a) (xQi E res.1 (wM E res.2.1 res.2.2)) := by
  unfold f_X12_breaks at hf
  refine xM_of (by decide) (Nat.le_of_ble_eq_true rfl) ?_
  intro p e s m below meth c A hx hb hr hml hts hown hlocks hA hD hP hK hN hS ls hl
  have hw : ∀ w ∈ BW, w.before _ s = true := fun w h => hts w (List.mem_cons_of_mem _ h)
  have C0 : xCtx E p m c cX12_breaks 5 s _ RX12 A yX12_breaks cX12_breaks 5 (some .int) := ⟨hx, hb, hml, hown, hts, hA, hK, hN⟩
  have hl : lv_has ls 5 [(0, .ref (E.2.1 0)), (1, .int v1), (2, .int v2)] := hl
  have B47 : ∀ (n : Nat) (g : xG) (a : xA) (x3 : Int32) (x4 : Int32) (H : Heap) (locs : List Loc) (ls : Array Slot), va_P E.1 vwCl (wM E g a) H → va_S A s.heap H locs → lv_has ls 5 [(3, .int x3), (4, .int x4)] → f_X12_breaks_47 n g a x3 x4 = some res → W p l e ({ frames := 4, cells := 0, slots := 0, locals := 100 }) s m ([.ref (E.2.1 0), .int v1, .int v2] : List Value).toArray below meth c H locs 0 0 (MQ below ((xQi E res.1 (wM E res.2.1 res.2.2)) A) ([.ref (E.2.1 0), .int v1, .int v2] : List Value).toArray s 0 0 A) (F0 m 47 ls []) := by
    intro n
    induction n with
    | zero => intro g a x3 x4 H locs ls hP hS hl hf; exact absurd (show (none : Option (Int32 × xG × xA)) = some res from hf) (by intro h; cases h)
    | succ n ih =>
      intro g a x3 x4 H locs ls hP hS hl hf
      replace hf := (e_X12_breaks_47 n g a x3 x4).symm.trans hf
      refine lv_iload hx hb dX12_breaks_47 (lv_at hl 1 rfl) ?_
      refine lv_bipush (v := 9) hx hb dX12_breaks_49 (by decide) ?_
      refine lv_icmp_ge (tgt := 72) hx hb dX12_breaks_51 (by decide) (fun c10 => ?_) (fun c10 => ?_)
      · replace hf := (if_pos c10).symm.trans hf
        refine lv_iconst (v := (-1)) hx hb dX12_breaks_72 (by decide) ?_
        exact xi_retS (fr := (fun r => r.1)) (fw := (fun r => wM E r.2.1 r.2.2)) hx hb hr hlocks (Option.some.inj hf) hP hS dX12_breaks_73
      · replace hf := (if_neg c10).symm.trans hf
        refine lv_iload_n hx hb dX12_breaks_54 rfl (lv_at hl 0 rfl) ?_
        refine lv_iload hx hb dX12_breaks_55 (lv_at hl 1 rfl) ?_
        refine xci (xRunS (rest := []) (As := [.int x3, .int x4]) (k := 2) C0 (c_X12_isIn l E g a x3 x4) bw779 bw793 bw778 bw794 hd_X12_isIn ⟨Nat.le_of_ble_eq_true rfl, Nat.le_of_ble_eq_true rfl⟩ hP (wM_D hD) hS rfl hl.1 rfl (Nat.le_of_ble_eq_true rfl) dX12_breaks_57 ⟨Nat.zero_le _, Nat.zero_le _⟩) hS (fun H locs hP hS => ?_)
        refine lv_if_eq (tgt := 66) hx hb dX12_breaks_60 (by decide) (fun c11 => ?_) (fun c11 => ?_)
        · replace hf := (if_pos c11).symm.trans hf
          refine lv_iinc (v := (x4 + 1)) (lv' := [(4, .int (x4 + 1)), (3, .int x3)]) hx hb dX12_breaks_66 hl (k := 1) rfl rfl (by decide) rfl (fun ls hl => ?_)
          refine lv_goto (tgt := 47) hx hb dX12_breaks_69 (by decide) ?_
          exact ih g a x3 (x4 + 1) _ _ _ hP hS (lv_sub hl [1, 0] rfl) hf
        · replace hf := (if_neg c11).symm.trans hf
          refine lv_iload hx hb dX12_breaks_63 (lv_at hl 1 rfl) ?_
          exact xi_retS (fr := (fun r => r.1)) (fw := (fun r => wM E r.2.1 r.2.2)) hx hb hr hlocks (Option.some.inj hf) hP hS dX12_breaks_65
  refine lv_aload_n hx hb dX12_breaks_0 rfl (lv_at hl 0 rfl) ?_
  refine lv_iload_n hx hb dX12_breaks_1 rfl (lv_at hl 1 rfl) ?_
  refine lv_iload_n hx hb dX12_breaks_2 rfl (lv_at hl 2 rfl) ?_
  obtain ⟨u1, e2, hf⟩ := bd_some hf
  refine xci (xRunV (rest := []) (As := [.int v1, .int v2]) (C := RX12) (k := 2) C0 (c_X12_areBoth l E g a v1 v2 e2) bw842 bw843 bw778 bw844 bw845 hd_X12_areBoth ⟨Nat.le_of_ble_eq_true rfl, Nat.le_of_ble_eq_true rfl⟩ hP (wM_D hD) hS (va_recv hK hP (ci := 12) rfl (gm_0 E g a)) rfl hl.1 rfl (Nat.le_of_ble_eq_true rfl) dX12_breaks_3 ⟨Nat.zero_le _, Nat.zero_le _⟩) hS (fun H locs hP hS => ?_)
  refine lv_if_ne (tgt := 11) hx hb dX12_breaks_6 (by decide) (fun c3 => ?_) (fun c3 => ?_)
  · replace hf := (if_neg c3).symm.trans hf
    refine lv_aload_n hx hb dX12_breaks_11 rfl (lv_at hl 0 rfl) ?_
    refine lv_iload_n hx hb dX12_breaks_12 rfl (lv_at hl 1 rfl) ?_
    refine lv_aload_n hx hb dX12_breaks_13 rfl (lv_at hl 0 rfl) ?_
    refine va_get (C := RX12) (T := TX12) (N := 22) hx hb hw bfX120 hown hK hP 0 (gm_0 E u1.2 a) rfl 5 (by decide) (hw _ bw758) (fun _ h9 => h9) rfl dX12_breaks_14 ?_
    refine lv_iload_n hx hb dX12_breaks_17 rfl (lv_at hl 1 rfl) ?_
    obtain ⟨k4, hf⟩ := ck_some hf
    refine va_iald hx hb hK hP 3 0 (gm_3 E u1.2 a) rfl (inB_in k4) dX12_breaks_18 ?_
    refine lv_aload_n hx hb dX12_breaks_19 rfl (lv_at hl 0 rfl) ?_
    refine va_get (C := RX12) (T := TX12) (N := 22) hx hb hw bfX120 hown hK hP 0 (gm_0 E u1.2 a) rfl 2 (by decide) (hw _ bw756) (fun _ h9 => h9) rfl dX12_breaks_20 ?_
    refine lv_iload_n hx hb dX12_breaks_23 rfl (lv_at hl 2 rfl) ?_
    obtain ⟨k5, hf⟩ := ck_some hf
    refine va_iald hx hb hK hP 1 0 (gm_1 E u1.2 a) rfl (inB_in k5) dX12_breaks_24 ?_
    refine lv_aload_n hx hb dX12_breaks_25 rfl (lv_at hl 0 rfl) ?_
    refine va_get (C := RX12) (T := TX12) (N := 22) hx hb hw bfX120 hown hK hP 0 (gm_0 E u1.2 a) rfl 3 (by decide) (hw _ bw757) (fun _ h9 => h9) rfl dX12_breaks_26 ?_
    refine lv_iload_n hx hb dX12_breaks_29 rfl (lv_at hl 2 rfl) ?_
    obtain ⟨k6, hf⟩ := ck_some hf
    refine va_iald hx hb hK hP 2 0 (gm_2 E u1.2 a) rfl (inB_in k6) dX12_breaks_30 ?_
    obtain ⟨u7, e8, hf⟩ := bd_some hf
    refine xci (xRunV (rest := []) (As := [.int v1, .int (a 3 (v1 : Int32).toNatClampNeg), .int (a 1 (v2 : Int32).toNatClampNeg), .int (a 2 (v2 : Int32).toNatClampNeg)]) (C := RX12) (k := 4) C0 (c_X12_come l E u1.2 a v1 (a 3 (v1 : Int32).toNatClampNeg) (a 1 (v2 : Int32).toNatClampNeg) (a 2 (v2 : Int32).toNatClampNeg) e8) bw827 bw834 bw778 bw835 bw836 hd_X12_come ⟨Nat.le_of_ble_eq_true rfl, Nat.le_of_ble_eq_true rfl⟩ hP (wM_D hD) hS (va_recv hK hP (ci := 12) rfl (gm_0 E u1.2 a)) rfl hl.1 rfl (Nat.le_of_ble_eq_true rfl) dX12_breaks_31 ⟨Nat.zero_le _, Nat.zero_le _⟩) hS (fun H locs hP hS => ?_)
    refine lv_aload_n hx hb dX12_breaks_34 rfl (lv_at hl 0 rfl) ?_
    refine va_get (C := RX12) (T := TX12) (N := 22) hx hb hw bfX120 hown hK hP 0 (gm_0 E u1.2 u7.2) rfl 3 (by decide) (hw _ bw757) (fun _ h9 => h9) rfl dX12_breaks_35 ?_
    refine lv_iload_n hx hb dX12_breaks_38 rfl (lv_at hl 2 rfl) ?_
    obtain ⟨k9, hf⟩ := ck_some hf
    refine va_iald hx hb hK hP 2 0 (gm_2 E u1.2 u7.2) rfl (inB_in k9) dX12_breaks_39 ?_
    refine lv_iconst (v := (-1)) hx hb dX12_breaks_40 (by decide) ?_
    refine lv_ixor hx hb dX12_breaks_41 ?_
    refine lv_iand hx hb dX12_breaks_42 ?_
    refine lv_istore_n (lv' := [(3, .int (u7.1 &&& ((u7.2 2 (v2 : Int32).toNatClampNeg) ^^^ (-1)))), (0, .ref (E.2.1 0)), (1, .int v1), (2, .int v2)]) hx hb dX12_breaks_43 rfl hl (by decide) rfl (fun ls hl => ?_)
    refine lv_iconst (v := 0) hx hb dX12_breaks_44 (by decide) ?_
    refine lv_istore (lv' := [(4, .int 0), (3, .int (u7.1 &&& ((u7.2 2 (v2 : Int32).toNatClampNeg) ^^^ (-1)))), (0, .ref (E.2.1 0)), (1, .int v1), (2, .int v2)]) hx hb dX12_breaks_45 hl (by decide) rfl (fun ls hl => ?_)
    exact B47 fu u1.2 u7.2 (u7.1 &&& ((u7.2 2 (v2 : Int32).toNatClampNeg) ^^^ (-1))) 0 _ _ _ hP hS (lv_sub hl [1, 0] rfl) hf
  · replace hf := (if_pos c3).symm.trans hf
    refine lv_iconst (v := 0) hx hb dX12_breaks_9 (by decide) ?_
    exact xi_retS (fr := (fun r => r.1)) (fw := (fun r => wM E r.2.1 r.2.2)) hx hb hr hlocks (Option.some.inj hf) hP hS dX12_breaks_10
def f_X12_answer (g : xG) (a : xA) (v1 : Int32) (v2 : Int32) (v3 : Int32) (v4 : Int32) : Option (Int32) := ck (inB ((((27 * v1) + v2) + ((g 0) * v3)) + (((g 0) * (g 0)) * v4)) 189) (some (a 4 (((((27 * v1) + v2) + ((g 0) * v3)) + (((g 0) * (g 0)) * v4)) : Int32).toNatClampNeg))
set_option maxRecDepth 100000 in
set_option maxHeartbeats 40000000 in
theorem c_X12_answer (l : Launch) (E : xE) (g : xG) (a : xA) (v1 : Int32) (v2 : Int32) (v3 : Int32) (v4 : Int32) {res : Int32} (hf : f_X12_answer g a v1 v2 v3 v4 = some res) : xM l E yX12_answer cX12_answer 5 (some .int) 0 0 [.ref (E.2.1 0), .int v1, .int v2, .int v3, .int v4] (wM E g a) (xQi E res (wM E g a)) := by
  unfold f_X12_answer at hf
  refine xM_of (by decide) (Nat.le_of_ble_eq_true rfl) ?_
  intro p e s m below meth c A hx hb hr hml hts hown hlocks hA hD hP hK hN hS ls hl
  have hw : ∀ w ∈ BW, w.before _ s = true := fun w h => hts w (List.mem_cons_of_mem _ h)
  have C0 : xCtx E p m c cX12_answer 5 s _ RX12 A yX12_answer cX12_answer 5 (some .int) := ⟨hx, hb, hml, hown, hts, hA, hK, hN⟩
  have hl : lv_has ls 5 [(0, .ref (E.2.1 0)), (1, .int v1), (2, .int v2), (3, .int v3), (4, .int v4)] := hl
  refine lv_aload_n hx hb dX12_answer_0 rfl (lv_at hl 0 rfl) ?_
  refine va_get (C := RX12) (T := TX12) (N := 22) hx hb hw bfX120 hown hK hP 0 (gm_0 E g a) rfl 6 (by decide) (hw _ bw759) (fun _ h9 => h9) rfl dX12_answer_1 ?_
  refine lv_bipush (v := 27) hx hb dX12_answer_4 (by decide) ?_
  refine lv_iload_n hx hb dX12_answer_6 rfl (lv_at hl 1 rfl) ?_
  refine lv_imul hx hb dX12_answer_7 ?_
  refine lv_iload_n hx hb dX12_answer_8 rfl (lv_at hl 2 rfl) ?_
  refine lv_iadd hx hb dX12_answer_9 ?_
  refine lv_aload_n hx hb dX12_answer_10 rfl (lv_at hl 0 rfl) ?_
  refine va_get (C := RX12) (T := TX12) (N := 22) hx hb hw bfX120 hown hK hP 0 (gm_0 E g a) rfl 0 (by decide) (hw _ bw755) (fun _ h9 => h9) rfl dX12_answer_11 ?_
  refine lv_iload_n hx hb dX12_answer_14 rfl (lv_at hl 3 rfl) ?_
  refine lv_imul hx hb dX12_answer_15 ?_
  refine lv_iadd hx hb dX12_answer_16 ?_
  refine lv_aload_n hx hb dX12_answer_17 rfl (lv_at hl 0 rfl) ?_
  refine va_get (C := RX12) (T := TX12) (N := 22) hx hb hw bfX120 hown hK hP 0 (gm_0 E g a) rfl 0 (by decide) (hw _ bw755) (fun _ h9 => h9) rfl dX12_answer_18 ?_
  refine lv_aload_n hx hb dX12_answer_21 rfl (lv_at hl 0 rfl) ?_
  refine va_get (C := RX12) (T := TX12) (N := 22) hx hb hw bfX120 hown hK hP 0 (gm_0 E g a) rfl 0 (by decide) (hw _ bw755) (fun _ h9 => h9) rfl dX12_answer_22 ?_
  refine lv_imul hx hb dX12_answer_25 ?_
  refine lv_iload hx hb dX12_answer_26 (lv_at hl 4 rfl) ?_
  refine lv_imul hx hb dX12_answer_28 ?_
  refine lv_iadd hx hb dX12_answer_29 ?_
  obtain ⟨k1, hf⟩ := ck_some hf
  refine va_iald hx hb hK hP 4 0 (gm_4 E g a) rfl (inB_in k1) dX12_answer_30 ?_
  exact xi_retS (fr := (fun r => r)) (fw := (fun r => wM E g a)) hx hb hr hlocks (Option.some.inj hf) hP hS dX12_answer_31
def f_X12_isIdempotent_44 (g : xG) (a : xA) (K5 : Int32 → Int32 → Int32 → Int32 → Option (Int32)) (x1 : Int32) (x2 : Int32) (x4 : Int32) (s0 : Int32) (s1 : Int32) (s2 : Int32) (s3 : Int32) : Option (Int32) := Option.bind (f_X12_answer g a s3 s2 s1 s0) (fun u6 => (if u6 = x4 then K5 x1 x2 1 (x4 + 1) else K5 x1 x2 0 (x4 + 1)))
def f_X12_isIdempotent_33 (g : xG) (a : xA) (K5 : Int32 → Int32 → Int32 → Int32 → Option (Int32)) (x1 : Int32) (x2 : Int32) (x4 : Int32) (s0 : Int32) (s1 : Int32) (s2 : Int32) : Option (Int32) := (if x2 ≤ 2 then f_X12_isIdempotent_44 g a K5 x1 x2 x4 0 s0 s1 s2 else f_X12_isIdempotent_44 g a K5 x1 x2 x4 x4 s0 s1 s2)
def f_X12_isIdempotent_5 (g : xG) (a : xA) : Nat → Int32 → Int32 → Int32 → Int32 → Option (Int32)
  | 0, _, _, _, _ => none
  | n + 1, x1, x2, x3, x4 => (if (g 0) ≤ x4 then ck (boB x3) (some x3) else (if x3 = 0 then f_X12_isIdempotent_5 g a n x1 x2 0 (x4 + 1) else (if x2 ≤ 1 then f_X12_isIdempotent_33 g a (f_X12_isIdempotent_5 g a n) x1 x2 x4 0 x4 x1 else f_X12_isIdempotent_33 g a (f_X12_isIdempotent_5 g a n) x1 x2 x4 x4 x4 x1)))
theorem e_X12_isIdempotent_5 (g : xG) (a : xA) (n : Nat) (x1 : Int32) (x2 : Int32) (x3 : Int32) (x4 : Int32) : f_X12_isIdempotent_5 g a (n + 1) x1 x2 x3 x4 = (if (g 0) ≤ x4 then ck (boB x3) (some x3) else (if x3 = 0 then f_X12_isIdempotent_5 g a n x1 x2 0 (x4 + 1) else (if x2 ≤ 1 then f_X12_isIdempotent_33 g a (f_X12_isIdempotent_5 g a n) x1 x2 x4 0 x4 x1 else f_X12_isIdempotent_33 g a (f_X12_isIdempotent_5 g a n) x1 x2 x4 x4 x4 x1))) := rfl
def f_X12_isIdempotent (g : xG) (a : xA) (v1 : Int32) (v2 : Int32) : Option (Int32) := f_X12_isIdempotent_5 g a fu v1 v2 1 0
set_option maxRecDepth 100000 in
set_option maxHeartbeats 40000000 in
theorem c_X12_isIdempotent (l : Launch) (E : xE) (g : xG) (a : xA) (v1 : Int32) (v2 : Int32) {res : Int32} (hf : f_X12_isIdempotent g a v1 v2 = some res) : xM l E yX12_isIdempotent cX12_isIdempotent 5 (some .boolean) 1 24 [.ref (E.2.1 0), .int v1, .int v2] (wM E g a) (xQi E res (wM E g a)) := by
  unfold f_X12_isIdempotent at hf
  refine xM_of (by decide) (Nat.le_of_ble_eq_true rfl) ?_
  intro p e s m below meth c A hx hb hr hml hts hown hlocks hA hD hP hK hN hS ls hl
  have hw : ∀ w ∈ BW, w.before _ s = true := fun w h => hts w (List.mem_cons_of_mem _ h)
  have C0 : xCtx E p m c cX12_isIdempotent 5 s _ RX12 A yX12_isIdempotent cX12_isIdempotent 5 (some .boolean) := ⟨hx, hb, hml, hown, hts, hA, hK, hN⟩
  have hl : lv_has ls 5 [(0, .ref (E.2.1 0)), (1, .int v1), (2, .int v2)] := hl
  have B44 : ∀ (K5 : Int32 → Int32 → Int32 → Int32 → Option (Int32)) (hK5 : ∀ (x1 : Int32) (x2 : Int32) (x3 : Int32) (x4 : Int32) (H : Heap) (locs : List Loc) (ls : Array Slot), va_P E.1 vwCl (wM E g a) H → va_S A s.heap H locs → lv_has ls 5 [(0, .ref (E.2.1 0)), (1, .int x1), (2, .int x2), (3, .int x3), (4, .int x4)] → K5 x1 x2 x3 x4 = some res → W p l e ({ frames := 1, cells := 0, slots := 0, locals := 24 }) s m ([.ref (E.2.1 0), .int v1, .int v2] : List Value).toArray below meth c H locs 0 0 (MQ below ((xQi E res (wM E g a)) A) ([.ref (E.2.1 0), .int v1, .int v2] : List Value).toArray s 0 0 A) (F0 m 5 ls [])) (x1 : Int32) (x2 : Int32) (x4 : Int32) (s0 : Int32) (s1 : Int32) (s2 : Int32) (s3 : Int32) (H : Heap) (locs : List Loc) (ls : Array Slot), va_P E.1 vwCl (wM E g a) H → va_S A s.heap H locs → lv_has ls 5 [(0, .ref (E.2.1 0)), (1, .int x1), (2, .int x2), (4, .int x4)] → f_X12_isIdempotent_44 g a K5 x1 x2 x4 s0 s1 s2 s3 = some res → W p l e ({ frames := 1, cells := 0, slots := 0, locals := 24 }) s m ([.ref (E.2.1 0), .int v1, .int v2] : List Value).toArray below meth c H locs 0 0 (MQ below ((xQi E res (wM E g a)) A) ([.ref (E.2.1 0), .int v1, .int v2] : List Value).toArray s 0 0 A) (F0 m 44 ls [.int s0, .int s1, .int s2, .int s3, .ref (E.2.1 0)]) := by
    intro K5 hK5 x1 x2 x4 s0 s1 s2 s3 H locs ls hP hS hl hf
    unfold f_X12_isIdempotent_44 at hf
    obtain ⟨u6, e7, hf⟩ := bd_some hf
    refine xci (xRunV (rest := []) (As := [.int s3, .int s2, .int s1, .int s0]) (C := RX12) (k := 4) C0 (c_X12_answer l E g a s3 s2 s1 s0 e7) bw848 bw850 bw778 bw851 bw852 hd_X12_answer ⟨Nat.le_of_ble_eq_true rfl, Nat.le_of_ble_eq_true rfl⟩ hP (wM_D hD) hS (va_recv hK hP (ci := 12) rfl (gm_0 E g a)) rfl hl.1 rfl (Nat.le_of_ble_eq_true rfl) dX12_isIdempotent_44 ⟨Nat.zero_le _, Nat.zero_le _⟩) hS (fun H locs hP hS => ?_)
    refine lv_iload hx hb dX12_isIdempotent_47 (lv_at hl 3 rfl) ?_
    refine lv_icmp_ne (tgt := 56) hx hb dX12_isIdempotent_49 (by decide) (fun c8 => ?_) (fun c8 => ?_)
    · replace hf := (if_neg c8).symm.trans hf
      refine lv_iconst (v := 0) hx hb dX12_isIdempotent_56 (by decide) ?_
      refine lv_istore_n (lv' := [(3, .int 0), (0, .ref (E.2.1 0)), (1, .int x1), (2, .int x2), (4, .int x4)]) hx hb dX12_isIdempotent_57 rfl hl (by decide) rfl (fun ls hl => ?_)
      refine lv_iinc (v := (x4 + 1)) (lv' := [(4, .int (x4 + 1)), (3, .int 0), (0, .ref (E.2.1 0)), (1, .int x1), (2, .int x2)]) hx hb dX12_isIdempotent_58 hl (k := 4) rfl rfl (by decide) rfl (fun ls hl => ?_)
      refine lv_goto (tgt := 5) hx hb dX12_isIdempotent_61 (by decide) ?_
      exact hK5 x1 x2 0 (x4 + 1) _ _ _ hP hS (lv_sub hl [2, 3, 4, 1, 0] rfl) hf
    · replace hf := (if_pos c8).symm.trans hf
      refine lv_iconst (v := 1) hx hb dX12_isIdempotent_52 (by decide) ?_
      refine lv_goto (tgt := 57) hx hb dX12_isIdempotent_53 (by decide) ?_
      refine lv_istore_n (lv' := [(3, .int 1), (0, .ref (E.2.1 0)), (1, .int x1), (2, .int x2), (4, .int x4)]) hx hb dX12_isIdempotent_57 rfl hl (by decide) rfl (fun ls hl => ?_)
      refine lv_iinc (v := (x4 + 1)) (lv' := [(4, .int (x4 + 1)), (3, .int 1), (0, .ref (E.2.1 0)), (1, .int x1), (2, .int x2)]) hx hb dX12_isIdempotent_58 hl (k := 4) rfl rfl (by decide) rfl (fun ls hl => ?_)
      refine lv_goto (tgt := 5) hx hb dX12_isIdempotent_61 (by decide) ?_
      exact hK5 x1 x2 1 (x4 + 1) _ _ _ hP hS (lv_sub hl [2, 3, 4, 1, 0] rfl) hf
  have B33 : ∀ (K5 : Int32 → Int32 → Int32 → Int32 → Option (Int32)) (hK5 : ∀ (x1 : Int32) (x2 : Int32) (x3 : Int32) (x4 : Int32) (H : Heap) (locs : List Loc) (ls : Array Slot), va_P E.1 vwCl (wM E g a) H → va_S A s.heap H locs → lv_has ls 5 [(0, .ref (E.2.1 0)), (1, .int x1), (2, .int x2), (3, .int x3), (4, .int x4)] → K5 x1 x2 x3 x4 = some res → W p l e ({ frames := 1, cells := 0, slots := 0, locals := 24 }) s m ([.ref (E.2.1 0), .int v1, .int v2] : List Value).toArray below meth c H locs 0 0 (MQ below ((xQi E res (wM E g a)) A) ([.ref (E.2.1 0), .int v1, .int v2] : List Value).toArray s 0 0 A) (F0 m 5 ls [])) (x1 : Int32) (x2 : Int32) (x4 : Int32) (s0 : Int32) (s1 : Int32) (s2 : Int32) (H : Heap) (locs : List Loc) (ls : Array Slot), va_P E.1 vwCl (wM E g a) H → va_S A s.heap H locs → lv_has ls 5 [(0, .ref (E.2.1 0)), (1, .int x1), (2, .int x2), (4, .int x4)] → f_X12_isIdempotent_33 g a K5 x1 x2 x4 s0 s1 s2 = some res → W p l e ({ frames := 1, cells := 0, slots := 0, locals := 24 }) s m ([.ref (E.2.1 0), .int v1, .int v2] : List Value).toArray below meth c H locs 0 0 (MQ below ((xQi E res (wM E g a)) A) ([.ref (E.2.1 0), .int v1, .int v2] : List Value).toArray s 0 0 A) (F0 m 33 ls [.int s0, .int s1, .int s2, .ref (E.2.1 0)]) := by
    intro K5 hK5 x1 x2 x4 s0 s1 s2 H locs ls hP hS hl hf
    unfold f_X12_isIdempotent_33 at hf
    refine lv_iload_n hx hb dX12_isIdempotent_33 rfl (lv_at hl 2 rfl) ?_
    refine lv_iconst (v := 2) hx hb dX12_isIdempotent_34 (by decide) ?_
    refine lv_icmp_le (tgt := 43) hx hb dX12_isIdempotent_35 (by decide) (fun c5 => ?_) (fun c5 => ?_)
    · replace hf := (if_pos c5).symm.trans hf
      refine lv_iconst (v := 0) hx hb dX12_isIdempotent_43 (by decide) ?_
      exact B44 K5 hK5 x1 x2 x4 0 s0 s1 s2 _ _ _ hP hS (lv_sub hl [0, 1, 2, 3] rfl) hf
    · replace hf := (if_neg c5).symm.trans hf
      refine lv_iload hx hb dX12_isIdempotent_38 (lv_at hl 3 rfl) ?_
      refine lv_goto (tgt := 44) hx hb dX12_isIdempotent_40 (by decide) ?_
      exact B44 K5 hK5 x1 x2 x4 x4 s0 s1 s2 _ _ _ hP hS (lv_sub hl [0, 1, 2, 3] rfl) hf
  have B5 : ∀ (n : Nat) (x1 : Int32) (x2 : Int32) (x3 : Int32) (x4 : Int32) (H : Heap) (locs : List Loc) (ls : Array Slot), va_P E.1 vwCl (wM E g a) H → va_S A s.heap H locs → lv_has ls 5 [(0, .ref (E.2.1 0)), (1, .int x1), (2, .int x2), (3, .int x3), (4, .int x4)] → f_X12_isIdempotent_5 g a n x1 x2 x3 x4 = some res → W p l e ({ frames := 1, cells := 0, slots := 0, locals := 24 }) s m ([.ref (E.2.1 0), .int v1, .int v2] : List Value).toArray below meth c H locs 0 0 (MQ below ((xQi E res (wM E g a)) A) ([.ref (E.2.1 0), .int v1, .int v2] : List Value).toArray s 0 0 A) (F0 m 5 ls []) := by
    intro n
    induction n with
    | zero => intro x1 x2 x3 x4 H locs ls hP hS hl hf; exact absurd (show (none : Option (Int32)) = some res from hf) (by intro h; cases h)
    | succ n ih =>
      intro x1 x2 x3 x4 H locs ls hP hS hl hf
      replace hf := (e_X12_isIdempotent_5 g a n x1 x2 x3 x4).symm.trans hf
      refine lv_iload hx hb dX12_isIdempotent_5 (lv_at hl 4 rfl) ?_
      refine lv_aload_n hx hb dX12_isIdempotent_7 rfl (lv_at hl 0 rfl) ?_
      refine va_get (C := RX12) (T := TX12) (N := 22) hx hb hw bfX120 hown hK hP 0 (gm_0 E g a) rfl 0 (by decide) (hw _ bw755) (fun _ h9 => h9) rfl dX12_isIdempotent_8 ?_
      refine lv_icmp_ge (tgt := 64) hx hb dX12_isIdempotent_11 (by decide) (fun c1 => ?_) (fun c1 => ?_)
      · replace hf := (if_pos c1).symm.trans hf
        refine lv_iload_n hx hb dX12_isIdempotent_64 rfl (lv_at hl 3 rfl) ?_
        obtain ⟨k2, hf⟩ := ck_some hf
        exact xz_retS (fr := (fun r => r)) (fw := (fun r => wM E g a)) hx hb hr hlocks (Option.some.inj hf) (boB_bo k2) hP hS dX12_isIdempotent_65
      · replace hf := (if_neg c1).symm.trans hf
        refine lv_iload_n hx hb dX12_isIdempotent_14 rfl (lv_at hl 3 rfl) ?_
        refine lv_if_eq (tgt := 56) hx hb dX12_isIdempotent_15 (by decide) (fun c3 => ?_) (fun c3 => ?_)
        · replace hf := (if_pos c3).symm.trans hf
          refine lv_iconst (v := 0) hx hb dX12_isIdempotent_56 (by decide) ?_
          refine lv_istore_n (lv' := [(3, .int 0), (0, .ref (E.2.1 0)), (1, .int x1), (2, .int x2), (4, .int x4)]) hx hb dX12_isIdempotent_57 rfl hl (by decide) rfl (fun ls hl => ?_)
          refine lv_iinc (v := (x4 + 1)) (lv' := [(4, .int (x4 + 1)), (3, .int 0), (0, .ref (E.2.1 0)), (1, .int x1), (2, .int x2)]) hx hb dX12_isIdempotent_58 hl (k := 4) rfl rfl (by decide) rfl (fun ls hl => ?_)
          refine lv_goto (tgt := 5) hx hb dX12_isIdempotent_61 (by decide) ?_
          exact ih x1 x2 0 (x4 + 1) _ _ _ hP hS (lv_sub hl [2, 3, 4, 1, 0] rfl) hf
        · replace hf := (if_neg c3).symm.trans hf
          refine lv_aload_n hx hb dX12_isIdempotent_18 rfl (lv_at hl 0 rfl) ?_
          refine lv_iload_n hx hb dX12_isIdempotent_19 rfl (lv_at hl 1 rfl) ?_
          refine lv_iload hx hb dX12_isIdempotent_20 (lv_at hl 4 rfl) ?_
          refine lv_iload_n hx hb dX12_isIdempotent_22 rfl (lv_at hl 2 rfl) ?_
          refine lv_iconst (v := 1) hx hb dX12_isIdempotent_23 (by decide) ?_
          refine lv_icmp_le (tgt := 32) hx hb dX12_isIdempotent_24 (by decide) (fun c4 => ?_) (fun c4 => ?_)
          · replace hf := (if_pos c4).symm.trans hf
            refine lv_iconst (v := 0) hx hb dX12_isIdempotent_32 (by decide) ?_
            exact B33 (f_X12_isIdempotent_5 g a n) ih x1 x2 x4 0 x4 x1 _ _ _ hP hS (lv_sub hl [0, 1, 2, 4] rfl) hf
          · replace hf := (if_neg c4).symm.trans hf
            refine lv_iload hx hb dX12_isIdempotent_27 (lv_at hl 4 rfl) ?_
            refine lv_goto (tgt := 33) hx hb dX12_isIdempotent_29 (by decide) ?_
            exact B33 (f_X12_isIdempotent_5 g a n) ih x1 x2 x4 x4 x4 x1 _ _ _ hP hS (lv_sub hl [0, 1, 2, 4] rfl) hf
  refine lv_iconst (v := 1) hx hb dX12_isIdempotent_0 (by decide) ?_
  refine lv_istore_n (lv' := [(3, .int 1), (0, .ref (E.2.1 0)), (1, .int v1), (2, .int v2)]) hx hb dX12_isIdempotent_1 rfl hl (by decide) rfl (fun ls hl => ?_)
  refine lv_iconst (v := 0) hx hb dX12_isIdempotent_2 (by decide) ?_
  refine lv_istore (lv' := [(4, .int 0), (3, .int 1), (0, .ref (E.2.1 0)), (1, .int v1), (2, .int v2)]) hx hb dX12_isIdempotent_3 hl (by decide) rfl (fun ls hl => ?_)
  exact B5 fu v1 v2 1 0 _ _ _ hP hS (lv_sub hl [2, 3, 4, 1, 0] rfl) hf
def f_X12_isSymmetric_5 (g : xG) (a : xA) : Nat → Int32 → Int32 → Int32 → Int32 → Option (Int32)
  | 0, _, _, _, _ => none
  | n + 1, x1, x2, x3, x4 => Option.bind (f_X12_power g a x2) (fun u1 => (if u1 ≤ x4 then ck (boB x3) (some x3) else (if x2 ≤ 1 then ck (boB x3) (some x3) else ck (nzB (g 0)) (ck (nzB (g 0)) (ck (nzB (g 0)) (ck (nzB (g 0)) (ck (nzB (g 0)) (Option.bind (f_X12_answer g a x1 (x4 - x4 / (g 0) * (g 0)) ((x4 / (g 0)) - (x4 / (g 0)) / (g 0) * (g 0)) ((x4 / (g 0)) / (g 0))) (fun u12 => (if x3 = 0 then f_X12_isSymmetric_5 g a n x1 x2 0 (x4 + 1) else Option.bind (f_X12_answer g a x1 ((x4 / (g 0)) - (x4 / (g 0)) / (g 0) * (g 0)) (x4 - x4 / (g 0) * (g 0)) ((x4 / (g 0)) / (g 0))) (fun u15 => (if u12 = u15 then (if x2 < 3 then f_X12_isSymmetric_5 g a n x1 x2 1 (x4 + 1) else Option.bind (f_X12_answer g a x1 (x4 - x4 / (g 0) * (g 0)) ((x4 / (g 0)) / (g 0)) ((x4 / (g 0)) - (x4 / (g 0)) / (g 0) * (g 0))) (fun u19 => (if u12 = u19 then f_X12_isSymmetric_5 g a n x1 x2 1 (x4 + 1) else f_X12_isSymmetric_5 g a n x1 x2 0 (x4 + 1)))) else f_X12_isSymmetric_5 g a n x1 x2 0 (x4 + 1)))))))))))))
theorem e_X12_isSymmetric_5 (g : xG) (a : xA) (n : Nat) (x1 : Int32) (x2 : Int32) (x3 : Int32) (x4 : Int32) : f_X12_isSymmetric_5 g a (n + 1) x1 x2 x3 x4 = Option.bind (f_X12_power g a x2) (fun u1 => (if u1 ≤ x4 then ck (boB x3) (some x3) else (if x2 ≤ 1 then ck (boB x3) (some x3) else ck (nzB (g 0)) (ck (nzB (g 0)) (ck (nzB (g 0)) (ck (nzB (g 0)) (ck (nzB (g 0)) (Option.bind (f_X12_answer g a x1 (x4 - x4 / (g 0) * (g 0)) ((x4 / (g 0)) - (x4 / (g 0)) / (g 0) * (g 0)) ((x4 / (g 0)) / (g 0))) (fun u12 => (if x3 = 0 then f_X12_isSymmetric_5 g a n x1 x2 0 (x4 + 1) else Option.bind (f_X12_answer g a x1 ((x4 / (g 0)) - (x4 / (g 0)) / (g 0) * (g 0)) (x4 - x4 / (g 0) * (g 0)) ((x4 / (g 0)) / (g 0))) (fun u15 => (if u12 = u15 then (if x2 < 3 then f_X12_isSymmetric_5 g a n x1 x2 1 (x4 + 1) else Option.bind (f_X12_answer g a x1 (x4 - x4 / (g 0) * (g 0)) ((x4 / (g 0)) / (g 0)) ((x4 / (g 0)) - (x4 / (g 0)) / (g 0) * (g 0))) (fun u19 => (if u12 = u19 then f_X12_isSymmetric_5 g a n x1 x2 1 (x4 + 1) else f_X12_isSymmetric_5 g a n x1 x2 0 (x4 + 1)))) else f_X12_isSymmetric_5 g a n x1 x2 0 (x4 + 1))))))))))))) := rfl
def f_X12_isSymmetric (g : xG) (a : xA) (v1 : Int32) (v2 : Int32) : Option (Int32) := f_X12_isSymmetric_5 g a fu v1 v2 1 0
set_option maxRecDepth 100000 in
set_option maxHeartbeats 40000000 in
theorem c_X12_isSymmetric (l : Launch) (E : xE) (g : xG) (a : xA) (v1 : Int32) (v2 : Int32) {res : Int32} (hf : f_X12_isSymmetric g a v1 v2 = some res) : xM l E yX12_isSymmetric cX12_isSymmetric 9 (some .boolean) 1 24 [.ref (E.2.1 0), .int v1, .int v2] (wM E g a) (xQi E res (wM E g a)) := by
  unfold f_X12_isSymmetric at hf
  refine xM_of (by decide) (Nat.le_of_ble_eq_true rfl) ?_
  intro p e s m below meth c A hx hb hr hml hts hown hlocks hA hD hP hK hN hS ls hl
  have hw : ∀ w ∈ BW, w.before _ s = true := fun w h => hts w (List.mem_cons_of_mem _ h)
  have C0 : xCtx E p m c cX12_isSymmetric 9 s _ RX12 A yX12_isSymmetric cX12_isSymmetric 9 (some .boolean) := ⟨hx, hb, hml, hown, hts, hA, hK, hN⟩
  have hl : lv_has ls 9 [(0, .ref (E.2.1 0)), (1, .int v1), (2, .int v2)] := hl
  have B5 : ∀ (n : Nat) (x1 : Int32) (x2 : Int32) (x3 : Int32) (x4 : Int32) (H : Heap) (locs : List Loc) (ls : Array Slot), va_P E.1 vwCl (wM E g a) H → va_S A s.heap H locs → lv_has ls 9 [(0, .ref (E.2.1 0)), (1, .int x1), (2, .int x2), (3, .int x3), (4, .int x4)] → f_X12_isSymmetric_5 g a n x1 x2 x3 x4 = some res → W p l e ({ frames := 1, cells := 0, slots := 0, locals := 24 }) s m ([.ref (E.2.1 0), .int v1, .int v2] : List Value).toArray below meth c H locs 0 0 (MQ below ((xQi E res (wM E g a)) A) ([.ref (E.2.1 0), .int v1, .int v2] : List Value).toArray s 0 0 A) (F0 m 5 ls []) := by
    intro n
    induction n with
    | zero => intro x1 x2 x3 x4 H locs ls hP hS hl hf; exact absurd (show (none : Option (Int32)) = some res from hf) (by intro h; cases h)
    | succ n ih =>
      intro x1 x2 x3 x4 H locs ls hP hS hl hf
      replace hf := (e_X12_isSymmetric_5 g a n x1 x2 x3 x4).symm.trans hf
      refine lv_iload hx hb dX12_isSymmetric_5 (lv_at hl 4 rfl) ?_
      refine lv_aload_n hx hb dX12_isSymmetric_7 rfl (lv_at hl 0 rfl) ?_
      refine lv_iload_n hx hb dX12_isSymmetric_8 rfl (lv_at hl 2 rfl) ?_
      obtain ⟨u1, e2, hf⟩ := bd_some hf
      refine xci (xRunV (rest := [.int x4]) (As := [.int x2]) (C := RX12) (k := 1) C0 (c_X12_power l E g a x2 e2) bw773 bw775 bw778 bw776 bw777 hd_X12_power ⟨Nat.le_of_ble_eq_true rfl, Nat.le_of_ble_eq_true rfl⟩ hP (wM_D hD) hS (va_recv hK hP (ci := 12) rfl (gm_0 E g a)) rfl hl.1 rfl (Nat.le_of_ble_eq_true rfl) dX12_isSymmetric_9 ⟨Nat.zero_le _, Nat.zero_le _⟩) hS (fun H locs hP hS => ?_)
      refine lv_icmp_ge (tgt := 123) hx hb dX12_isSymmetric_12 (by decide) (fun c3 => ?_) (fun c3 => ?_)
      · replace hf := (if_pos c3).symm.trans hf
        refine lv_iload_n hx hb dX12_isSymmetric_123 rfl (lv_at hl 3 rfl) ?_
        obtain ⟨k4, hf⟩ := ck_some hf
        exact xz_retS (fr := (fun r => r)) (fw := (fun r => wM E g a)) hx hb hr hlocks (Option.some.inj hf) (boB_bo k4) hP hS dX12_isSymmetric_124
      · replace hf := (if_neg c3).symm.trans hf
        refine lv_iload_n hx hb dX12_isSymmetric_15 rfl (lv_at hl 2 rfl) ?_
        refine lv_iconst (v := 1) hx hb dX12_isSymmetric_16 (by decide) ?_
        refine lv_icmp_le (tgt := 123) hx hb dX12_isSymmetric_17 (by decide) (fun c5 => ?_) (fun c5 => ?_)
        · replace hf := (if_pos c5).symm.trans hf
          refine lv_iload_n hx hb dX12_isSymmetric_123 rfl (lv_at hl 3 rfl) ?_
          obtain ⟨k6, hf⟩ := ck_some hf
          exact xz_retS (fr := (fun r => r)) (fw := (fun r => wM E g a)) hx hb hr hlocks (Option.some.inj hf) (boB_bo k6) hP hS dX12_isSymmetric_124
        · replace hf := (if_neg c5).symm.trans hf
          refine lv_iload hx hb dX12_isSymmetric_20 (lv_at hl 4 rfl) ?_
          refine lv_aload_n hx hb dX12_isSymmetric_22 rfl (lv_at hl 0 rfl) ?_
          refine va_get (C := RX12) (T := TX12) (N := 22) hx hb hw bfX120 hown hK hP 0 (gm_0 E g a) rfl 0 (by decide) (hw _ bw755) (fun _ h9 => h9) rfl dX12_isSymmetric_23 ?_
          obtain ⟨k7, hf⟩ := ck_some hf
          refine lv_irem hx hb dX12_isSymmetric_26 (nzB_nz k7) ?_
          refine lv_istore (lv' := [(5, .int (x4 - x4 / (g 0) * (g 0))), (0, .ref (E.2.1 0)), (1, .int x1), (2, .int x2), (3, .int x3), (4, .int x4)]) hx hb dX12_isSymmetric_27 hl (by decide) rfl (fun ls hl => ?_)
          refine lv_iload hx hb dX12_isSymmetric_29 (lv_at hl 5 rfl) ?_
          refine lv_aload_n hx hb dX12_isSymmetric_31 rfl (lv_at hl 1 rfl) ?_
          refine va_get (C := RX12) (T := TX12) (N := 22) hx hb hw bfX120 hown hK hP 0 (gm_0 E g a) rfl 0 (by decide) (hw _ bw755) (fun _ h9 => h9) rfl dX12_isSymmetric_32 ?_
          obtain ⟨k8, hf⟩ := ck_some hf
          refine lv_idiv hx hb dX12_isSymmetric_35 (nzB_nz k8) ?_
          refine lv_aload_n hx hb dX12_isSymmetric_36 rfl (lv_at hl 1 rfl) ?_
          refine va_get (C := RX12) (T := TX12) (N := 22) hx hb hw bfX120 hown hK hP 0 (gm_0 E g a) rfl 0 (by decide) (hw _ bw755) (fun _ h9 => h9) rfl dX12_isSymmetric_37 ?_
          obtain ⟨k9, hf⟩ := ck_some hf
          refine lv_irem hx hb dX12_isSymmetric_40 (nzB_nz k9) ?_
          refine lv_istore (lv' := [(6, .int ((x4 / (g 0)) - (x4 / (g 0)) / (g 0) * (g 0))), (5, .int (x4 - x4 / (g 0) * (g 0))), (0, .ref (E.2.1 0)), (1, .int x1), (2, .int x2), (3, .int x3), (4, .int x4)]) hx hb dX12_isSymmetric_41 hl (by decide) rfl (fun ls hl => ?_)
          refine lv_iload hx hb dX12_isSymmetric_43 (lv_at hl 6 rfl) ?_
          refine lv_aload_n hx hb dX12_isSymmetric_45 rfl (lv_at hl 2 rfl) ?_
          refine va_get (C := RX12) (T := TX12) (N := 22) hx hb hw bfX120 hown hK hP 0 (gm_0 E g a) rfl 0 (by decide) (hw _ bw755) (fun _ h9 => h9) rfl dX12_isSymmetric_46 ?_
          obtain ⟨k10, hf⟩ := ck_some hf
          refine lv_idiv hx hb dX12_isSymmetric_49 (nzB_nz k10) ?_
          refine lv_aload_n hx hb dX12_isSymmetric_50 rfl (lv_at hl 2 rfl) ?_
          refine va_get (C := RX12) (T := TX12) (N := 22) hx hb hw bfX120 hown hK hP 0 (gm_0 E g a) rfl 0 (by decide) (hw _ bw755) (fun _ h9 => h9) rfl dX12_isSymmetric_51 ?_
          obtain ⟨k11, hf⟩ := ck_some hf
          refine lv_idiv hx hb dX12_isSymmetric_54 (nzB_nz k11) ?_
          refine lv_istore (lv' := [(7, .int ((x4 / (g 0)) / (g 0))), (6, .int ((x4 / (g 0)) - (x4 / (g 0)) / (g 0) * (g 0))), (5, .int (x4 - x4 / (g 0) * (g 0))), (0, .ref (E.2.1 0)), (1, .int x1), (2, .int x2), (3, .int x3), (4, .int x4)]) hx hb dX12_isSymmetric_55 hl (by decide) rfl (fun ls hl => ?_)
          refine lv_aload_n hx hb dX12_isSymmetric_57 rfl (lv_at hl 3 rfl) ?_
          refine lv_iload_n hx hb dX12_isSymmetric_58 rfl (lv_at hl 4 rfl) ?_
          refine lv_iload hx hb dX12_isSymmetric_59 (lv_at hl 2 rfl) ?_
          refine lv_iload hx hb dX12_isSymmetric_61 (lv_at hl 1 rfl) ?_
          refine lv_iload hx hb dX12_isSymmetric_63 (lv_at hl 0 rfl) ?_
          obtain ⟨u12, e13, hf⟩ := bd_some hf
          refine xci (xRunV (rest := []) (As := [.int x1, .int (x4 - x4 / (g 0) * (g 0)), .int ((x4 / (g 0)) - (x4 / (g 0)) / (g 0) * (g 0)), .int ((x4 / (g 0)) / (g 0))]) (C := RX12) (k := 4) C0 (c_X12_answer l E g a x1 (x4 - x4 / (g 0) * (g 0)) ((x4 / (g 0)) - (x4 / (g 0)) / (g 0) * (g 0)) ((x4 / (g 0)) / (g 0)) e13) bw848 bw850 bw778 bw851 bw852 hd_X12_answer ⟨Nat.le_of_ble_eq_true rfl, Nat.le_of_ble_eq_true rfl⟩ hP (wM_D hD) hS (va_recv hK hP (ci := 12) rfl (gm_0 E g a)) rfl hl.1 rfl (Nat.le_of_ble_eq_true rfl) dX12_isSymmetric_65 ⟨Nat.zero_le _, Nat.zero_le _⟩) hS (fun H locs hP hS => ?_)
          refine lv_istore (lv' := [(8, .int u12), (7, .int ((x4 / (g 0)) / (g 0))), (6, .int ((x4 / (g 0)) - (x4 / (g 0)) / (g 0) * (g 0))), (5, .int (x4 - x4 / (g 0) * (g 0))), (0, .ref (E.2.1 0)), (1, .int x1), (2, .int x2), (3, .int x3), (4, .int x4)]) hx hb dX12_isSymmetric_68 hl (by decide) rfl (fun ls hl => ?_)
          refine lv_iload_n hx hb dX12_isSymmetric_70 rfl (lv_at hl 7 rfl) ?_
          refine lv_if_eq (tgt := 115) hx hb dX12_isSymmetric_71 (by decide) (fun c14 => ?_) (fun c14 => ?_)
          · replace hf := (if_pos c14).symm.trans hf
            refine lv_iconst (v := 0) hx hb dX12_isSymmetric_115 (by decide) ?_
            refine lv_istore_n (lv' := [(3, .int 0), (8, .int u12), (7, .int ((x4 / (g 0)) / (g 0))), (6, .int ((x4 / (g 0)) - (x4 / (g 0)) / (g 0) * (g 0))), (5, .int (x4 - x4 / (g 0) * (g 0))), (0, .ref (E.2.1 0)), (1, .int x1), (2, .int x2), (4, .int x4)]) hx hb dX12_isSymmetric_116 rfl hl (by decide) rfl (fun ls hl => ?_)
            refine lv_iinc (v := (x4 + 1)) (lv' := [(4, .int (x4 + 1)), (3, .int 0), (8, .int u12), (7, .int ((x4 / (g 0)) / (g 0))), (6, .int ((x4 / (g 0)) - (x4 / (g 0)) / (g 0) * (g 0))), (5, .int (x4 - x4 / (g 0) * (g 0))), (0, .ref (E.2.1 0)), (1, .int x1), (2, .int x2)]) hx hb dX12_isSymmetric_117 hl (k := 8) rfl rfl (by decide) rfl (fun ls hl => ?_)
            refine lv_goto (tgt := 5) hx hb dX12_isSymmetric_120 (by decide) ?_
            exact ih x1 x2 0 (x4 + 1) _ _ _ hP hS (lv_sub hl [6, 7, 8, 1, 0] rfl) hf
          · replace hf := (if_neg c14).symm.trans hf
            refine lv_iload hx hb dX12_isSymmetric_74 (lv_at hl 0 rfl) ?_
            refine lv_aload_n hx hb dX12_isSymmetric_76 rfl (lv_at hl 4 rfl) ?_
            refine lv_iload_n hx hb dX12_isSymmetric_77 rfl (lv_at hl 5 rfl) ?_
            refine lv_iload hx hb dX12_isSymmetric_78 (lv_at hl 2 rfl) ?_
            refine lv_iload hx hb dX12_isSymmetric_80 (lv_at hl 3 rfl) ?_
            refine lv_iload hx hb dX12_isSymmetric_82 (lv_at hl 1 rfl) ?_
            obtain ⟨u15, e16, hf⟩ := bd_some hf
            refine xci (xRunV (rest := [.int u12]) (As := [.int x1, .int ((x4 / (g 0)) - (x4 / (g 0)) / (g 0) * (g 0)), .int (x4 - x4 / (g 0) * (g 0)), .int ((x4 / (g 0)) / (g 0))]) (C := RX12) (k := 4) C0 (c_X12_answer l E g a x1 ((x4 / (g 0)) - (x4 / (g 0)) / (g 0) * (g 0)) (x4 - x4 / (g 0) * (g 0)) ((x4 / (g 0)) / (g 0)) e16) bw848 bw850 bw778 bw851 bw852 hd_X12_answer ⟨Nat.le_of_ble_eq_true rfl, Nat.le_of_ble_eq_true rfl⟩ hP (wM_D hD) hS (va_recv hK hP (ci := 12) rfl (gm_0 E g a)) rfl hl.1 rfl (Nat.le_of_ble_eq_true rfl) dX12_isSymmetric_84 ⟨Nat.zero_le _, Nat.zero_le _⟩) hS (fun H locs hP hS => ?_)
            refine lv_icmp_ne (tgt := 115) hx hb dX12_isSymmetric_87 (by decide) (fun c17 => ?_) (fun c17 => ?_)
            · replace hf := (if_neg c17).symm.trans hf
              refine lv_iconst (v := 0) hx hb dX12_isSymmetric_115 (by decide) ?_
              refine lv_istore_n (lv' := [(3, .int 0), (8, .int u12), (7, .int ((x4 / (g 0)) / (g 0))), (6, .int ((x4 / (g 0)) - (x4 / (g 0)) / (g 0) * (g 0))), (5, .int (x4 - x4 / (g 0) * (g 0))), (0, .ref (E.2.1 0)), (1, .int x1), (2, .int x2), (4, .int x4)]) hx hb dX12_isSymmetric_116 rfl hl (by decide) rfl (fun ls hl => ?_)
              refine lv_iinc (v := (x4 + 1)) (lv' := [(4, .int (x4 + 1)), (3, .int 0), (8, .int u12), (7, .int ((x4 / (g 0)) / (g 0))), (6, .int ((x4 / (g 0)) - (x4 / (g 0)) / (g 0) * (g 0))), (5, .int (x4 - x4 / (g 0) * (g 0))), (0, .ref (E.2.1 0)), (1, .int x1), (2, .int x2)]) hx hb dX12_isSymmetric_117 hl (k := 8) rfl rfl (by decide) rfl (fun ls hl => ?_)
              refine lv_goto (tgt := 5) hx hb dX12_isSymmetric_120 (by decide) ?_
              exact ih x1 x2 0 (x4 + 1) _ _ _ hP hS (lv_sub hl [6, 7, 8, 1, 0] rfl) hf
            · replace hf := (if_pos c17).symm.trans hf
              refine lv_iload_n hx hb dX12_isSymmetric_90 rfl (lv_at hl 6 rfl) ?_
              refine lv_iconst (v := 3) hx hb dX12_isSymmetric_91 (by decide) ?_
              refine lv_icmp_lt (tgt := 111) hx hb dX12_isSymmetric_92 (by decide) (fun c18 => ?_) (fun c18 => ?_)
              · replace hf := (if_pos c18).symm.trans hf
                refine lv_iconst (v := 1) hx hb dX12_isSymmetric_111 (by decide) ?_
                refine lv_goto (tgt := 116) hx hb dX12_isSymmetric_112 (by decide) ?_
                refine lv_istore_n (lv' := [(3, .int 1), (8, .int u12), (7, .int ((x4 / (g 0)) / (g 0))), (6, .int ((x4 / (g 0)) - (x4 / (g 0)) / (g 0) * (g 0))), (5, .int (x4 - x4 / (g 0) * (g 0))), (0, .ref (E.2.1 0)), (1, .int x1), (2, .int x2), (4, .int x4)]) hx hb dX12_isSymmetric_116 rfl hl (by decide) rfl (fun ls hl => ?_)
                refine lv_iinc (v := (x4 + 1)) (lv' := [(4, .int (x4 + 1)), (3, .int 1), (8, .int u12), (7, .int ((x4 / (g 0)) / (g 0))), (6, .int ((x4 / (g 0)) - (x4 / (g 0)) / (g 0) * (g 0))), (5, .int (x4 - x4 / (g 0) * (g 0))), (0, .ref (E.2.1 0)), (1, .int x1), (2, .int x2)]) hx hb dX12_isSymmetric_117 hl (k := 8) rfl rfl (by decide) rfl (fun ls hl => ?_)
                refine lv_goto (tgt := 5) hx hb dX12_isSymmetric_120 (by decide) ?_
                exact ih x1 x2 1 (x4 + 1) _ _ _ hP hS (lv_sub hl [6, 7, 8, 1, 0] rfl) hf
              · replace hf := (if_neg c18).symm.trans hf
                refine lv_iload hx hb dX12_isSymmetric_95 (lv_at hl 0 rfl) ?_
                refine lv_aload_n hx hb dX12_isSymmetric_97 rfl (lv_at hl 4 rfl) ?_
                refine lv_iload_n hx hb dX12_isSymmetric_98 rfl (lv_at hl 5 rfl) ?_
                refine lv_iload hx hb dX12_isSymmetric_99 (lv_at hl 3 rfl) ?_
                refine lv_iload hx hb dX12_isSymmetric_101 (lv_at hl 1 rfl) ?_
                refine lv_iload hx hb dX12_isSymmetric_103 (lv_at hl 2 rfl) ?_
                obtain ⟨u19, e20, hf⟩ := bd_some hf
                refine xci (xRunV (rest := [.int u12]) (As := [.int x1, .int (x4 - x4 / (g 0) * (g 0)), .int ((x4 / (g 0)) / (g 0)), .int ((x4 / (g 0)) - (x4 / (g 0)) / (g 0) * (g 0))]) (C := RX12) (k := 4) C0 (c_X12_answer l E g a x1 (x4 - x4 / (g 0) * (g 0)) ((x4 / (g 0)) / (g 0)) ((x4 / (g 0)) - (x4 / (g 0)) / (g 0) * (g 0)) e20) bw848 bw850 bw778 bw851 bw852 hd_X12_answer ⟨Nat.le_of_ble_eq_true rfl, Nat.le_of_ble_eq_true rfl⟩ hP (wM_D hD) hS (va_recv hK hP (ci := 12) rfl (gm_0 E g a)) rfl hl.1 rfl (Nat.le_of_ble_eq_true rfl) dX12_isSymmetric_105 ⟨Nat.zero_le _, Nat.zero_le _⟩) hS (fun H locs hP hS => ?_)
                refine lv_icmp_ne (tgt := 115) hx hb dX12_isSymmetric_108 (by decide) (fun c21 => ?_) (fun c21 => ?_)
                · replace hf := (if_neg c21).symm.trans hf
                  refine lv_iconst (v := 0) hx hb dX12_isSymmetric_115 (by decide) ?_
                  refine lv_istore_n (lv' := [(3, .int 0), (8, .int u12), (7, .int ((x4 / (g 0)) / (g 0))), (6, .int ((x4 / (g 0)) - (x4 / (g 0)) / (g 0) * (g 0))), (5, .int (x4 - x4 / (g 0) * (g 0))), (0, .ref (E.2.1 0)), (1, .int x1), (2, .int x2), (4, .int x4)]) hx hb dX12_isSymmetric_116 rfl hl (by decide) rfl (fun ls hl => ?_)
                  refine lv_iinc (v := (x4 + 1)) (lv' := [(4, .int (x4 + 1)), (3, .int 0), (8, .int u12), (7, .int ((x4 / (g 0)) / (g 0))), (6, .int ((x4 / (g 0)) - (x4 / (g 0)) / (g 0) * (g 0))), (5, .int (x4 - x4 / (g 0) * (g 0))), (0, .ref (E.2.1 0)), (1, .int x1), (2, .int x2)]) hx hb dX12_isSymmetric_117 hl (k := 8) rfl rfl (by decide) rfl (fun ls hl => ?_)
                  refine lv_goto (tgt := 5) hx hb dX12_isSymmetric_120 (by decide) ?_
                  exact ih x1 x2 0 (x4 + 1) _ _ _ hP hS (lv_sub hl [6, 7, 8, 1, 0] rfl) hf
                · replace hf := (if_pos c21).symm.trans hf
                  refine lv_iconst (v := 1) hx hb dX12_isSymmetric_111 (by decide) ?_
                  refine lv_goto (tgt := 116) hx hb dX12_isSymmetric_112 (by decide) ?_
                  refine lv_istore_n (lv' := [(3, .int 1), (8, .int u12), (7, .int ((x4 / (g 0)) / (g 0))), (6, .int ((x4 / (g 0)) - (x4 / (g 0)) / (g 0) * (g 0))), (5, .int (x4 - x4 / (g 0) * (g 0))), (0, .ref (E.2.1 0)), (1, .int x1), (2, .int x2), (4, .int x4)]) hx hb dX12_isSymmetric_116 rfl hl (by decide) rfl (fun ls hl => ?_)
                  refine lv_iinc (v := (x4 + 1)) (lv' := [(4, .int (x4 + 1)), (3, .int 1), (8, .int u12), (7, .int ((x4 / (g 0)) / (g 0))), (6, .int ((x4 / (g 0)) - (x4 / (g 0)) / (g 0) * (g 0))), (5, .int (x4 - x4 / (g 0) * (g 0))), (0, .ref (E.2.1 0)), (1, .int x1), (2, .int x2)]) hx hb dX12_isSymmetric_117 hl (k := 8) rfl rfl (by decide) rfl (fun ls hl => ?_)
                  refine lv_goto (tgt := 5) hx hb dX12_isSymmetric_120 (by decide) ?_
                  exact ih x1 x2 1 (x4 + 1) _ _ _ hP hS (lv_sub hl [6, 7, 8, 1, 0] rfl) hf
  refine lv_iconst (v := 1) hx hb dX12_isSymmetric_0 (by decide) ?_
  refine lv_istore_n (lv' := [(3, .int 1), (0, .ref (E.2.1 0)), (1, .int v1), (2, .int v2)]) hx hb dX12_isSymmetric_1 rfl hl (by decide) rfl (fun ls hl => ?_)
  refine lv_iconst (v := 0) hx hb dX12_isSymmetric_2 (by decide) ?_
  refine lv_istore (lv' := [(4, .int 0), (3, .int 1), (0, .ref (E.2.1 0)), (1, .int v1), (2, .int v2)]) hx hb dX12_isSymmetric_3 hl (by decide) rfl (fun ls hl => ?_)
  exact B5 fu v1 v2 1 0 _ _ _ hP hS (lv_sub hl [2, 3, 4, 1, 0] rfl) hf
def f_X12_associates_4 (g : xG) (a : xA) : Nat → Int32 → Int32 → Int32 → Option (Int32)
  | 0, _, _, _ => none
  | n + 1, x1, x2, x3 => (if (((g 0) * (g 0)) * (g 0)) ≤ x3 then ck (boB x2) (some x2) else ck (nzB (g 0)) (ck (nzB (g 0)) (ck (nzB (g 0)) (ck (nzB (g 0)) (ck (nzB (g 0)) ((if x2 = 0 then f_X12_associates_4 g a n x1 0 (x3 + 1) else Option.bind (f_X12_answer g a x1 ((x3 / (g 0)) - (x3 / (g 0)) / (g 0) * (g 0)) ((x3 / (g 0)) / (g 0)) 0) (fun u9 => Option.bind (f_X12_answer g a x1 (x3 - x3 / (g 0) * (g 0)) u9 0) (fun u11 => Option.bind (f_X12_answer g a x1 (x3 - x3 / (g 0) * (g 0)) ((x3 / (g 0)) - (x3 / (g 0)) / (g 0) * (g 0)) 0) (fun u13 => Option.bind (f_X12_answer g a x1 u13 ((x3 / (g 0)) / (g 0)) 0) (fun u15 => (if u11 = u15 then f_X12_associates_4 g a n x1 1 (x3 + 1) else f_X12_associates_4 g a n x1 0 (x3 + 1)))))))))))))
theorem e_X12_associates_4 (g : xG) (a : xA) (n : Nat) (x1 : Int32) (x2 : Int32) (x3 : Int32) : f_X12_associates_4 g a (n + 1) x1 x2 x3 = (if (((g 0) * (g 0)) * (g 0)) ≤ x3 then ck (boB x2) (some x2) else ck (nzB (g 0)) (ck (nzB (g 0)) (ck (nzB (g 0)) (ck (nzB (g 0)) (ck (nzB (g 0)) ((if x2 = 0 then f_X12_associates_4 g a n x1 0 (x3 + 1) else Option.bind (f_X12_answer g a x1 ((x3 / (g 0)) - (x3 / (g 0)) / (g 0) * (g 0)) ((x3 / (g 0)) / (g 0)) 0) (fun u9 => Option.bind (f_X12_answer g a x1 (x3 - x3 / (g 0) * (g 0)) u9 0) (fun u11 => Option.bind (f_X12_answer g a x1 (x3 - x3 / (g 0) * (g 0)) ((x3 / (g 0)) - (x3 / (g 0)) / (g 0) * (g 0)) 0) (fun u13 => Option.bind (f_X12_answer g a x1 u13 ((x3 / (g 0)) / (g 0)) 0) (fun u15 => (if u11 = u15 then f_X12_associates_4 g a n x1 1 (x3 + 1) else f_X12_associates_4 g a n x1 0 (x3 + 1))))))))))))) := rfl
def f_X12_associates (g : xG) (a : xA) (v1 : Int32) : Option (Int32) := f_X12_associates_4 g a fu v1 1 0
set_option maxRecDepth 100000 in
set_option maxHeartbeats 40000000 in
theorem c_X12_associates (l : Launch) (E : xE) (g : xG) (a : xA) (v1 : Int32) {res : Int32} (hf : f_X12_associates g a v1 = some res) : xM l E yX12_associates cX12_associates 7 (some .boolean) 1 24 [.ref (E.2.1 0), .int v1] (wM E g a) (xQi E res (wM E g a)) := by
  unfold f_X12_associates at hf
  refine xM_of (by decide) (Nat.le_of_ble_eq_true rfl) ?_
  intro p e s m below meth c A hx hb hr hml hts hown hlocks hA hD hP hK hN hS ls hl
  have hw : ∀ w ∈ BW, w.before _ s = true := fun w h => hts w (List.mem_cons_of_mem _ h)
  have C0 : xCtx E p m c cX12_associates 7 s _ RX12 A yX12_associates cX12_associates 7 (some .boolean) := ⟨hx, hb, hml, hown, hts, hA, hK, hN⟩
  have hl : lv_has ls 7 [(0, .ref (E.2.1 0)), (1, .int v1)] := hl
  have B4 : ∀ (n : Nat) (x1 : Int32) (x2 : Int32) (x3 : Int32) (H : Heap) (locs : List Loc) (ls : Array Slot), va_P E.1 vwCl (wM E g a) H → va_S A s.heap H locs → lv_has ls 7 [(0, .ref (E.2.1 0)), (1, .int x1), (2, .int x2), (3, .int x3)] → f_X12_associates_4 g a n x1 x2 x3 = some res → W p l e ({ frames := 1, cells := 0, slots := 0, locals := 24 }) s m ([.ref (E.2.1 0), .int v1] : List Value).toArray below meth c H locs 0 0 (MQ below ((xQi E res (wM E g a)) A) ([.ref (E.2.1 0), .int v1] : List Value).toArray s 0 0 A) (F0 m 4 ls []) := by
    intro n
    induction n with
    | zero => intro x1 x2 x3 H locs ls hP hS hl hf; exact absurd (show (none : Option (Int32)) = some res from hf) (by intro h; cases h)
    | succ n ih =>
      intro x1 x2 x3 H locs ls hP hS hl hf
      replace hf := (e_X12_associates_4 g a n x1 x2 x3).symm.trans hf
      refine lv_iload_n hx hb dX12_associates_4 rfl (lv_at hl 3 rfl) ?_
      refine lv_aload_n hx hb dX12_associates_5 rfl (lv_at hl 0 rfl) ?_
      refine va_get (C := RX12) (T := TX12) (N := 22) hx hb hw bfX120 hown hK hP 0 (gm_0 E g a) rfl 0 (by decide) (hw _ bw755) (fun _ h9 => h9) rfl dX12_associates_6 ?_
      refine lv_aload_n hx hb dX12_associates_9 rfl (lv_at hl 0 rfl) ?_
      refine va_get (C := RX12) (T := TX12) (N := 22) hx hb hw bfX120 hown hK hP 0 (gm_0 E g a) rfl 0 (by decide) (hw _ bw755) (fun _ h9 => h9) rfl dX12_associates_10 ?_
      refine lv_imul hx hb dX12_associates_13 ?_
      refine lv_aload_n hx hb dX12_associates_14 rfl (lv_at hl 0 rfl) ?_
      refine va_get (C := RX12) (T := TX12) (N := 22) hx hb hw bfX120 hown hK hP 0 (gm_0 E g a) rfl 0 (by decide) (hw _ bw755) (fun _ h9 => h9) rfl dX12_associates_15 ?_
      refine lv_imul hx hb dX12_associates_18 ?_
      refine lv_icmp_ge (tgt := 111) hx hb dX12_associates_19 (by decide) (fun c1 => ?_) (fun c1 => ?_)
      · replace hf := (if_pos c1).symm.trans hf
        refine lv_iload_n hx hb dX12_associates_111 rfl (lv_at hl 2 rfl) ?_
        obtain ⟨k2, hf⟩ := ck_some hf
        exact xz_retS (fr := (fun r => r)) (fw := (fun r => wM E g a)) hx hb hr hlocks (Option.some.inj hf) (boB_bo k2) hP hS dX12_associates_112
      · replace hf := (if_neg c1).symm.trans hf
        refine lv_iload_n hx hb dX12_associates_22 rfl (lv_at hl 3 rfl) ?_
        refine lv_aload_n hx hb dX12_associates_23 rfl (lv_at hl 0 rfl) ?_
        refine va_get (C := RX12) (T := TX12) (N := 22) hx hb hw bfX120 hown hK hP 0 (gm_0 E g a) rfl 0 (by decide) (hw _ bw755) (fun _ h9 => h9) rfl dX12_associates_24 ?_
        obtain ⟨k3, hf⟩ := ck_some hf
        refine lv_irem hx hb dX12_associates_27 (nzB_nz k3) ?_
        refine lv_istore (lv' := [(4, .int (x3 - x3 / (g 0) * (g 0))), (0, .ref (E.2.1 0)), (1, .int x1), (2, .int x2), (3, .int x3)]) hx hb dX12_associates_28 hl (by decide) rfl (fun ls hl => ?_)
        refine lv_iload_n hx hb dX12_associates_30 rfl (lv_at hl 4 rfl) ?_
        refine lv_aload_n hx hb dX12_associates_31 rfl (lv_at hl 1 rfl) ?_
        refine va_get (C := RX12) (T := TX12) (N := 22) hx hb hw bfX120 hown hK hP 0 (gm_0 E g a) rfl 0 (by decide) (hw _ bw755) (fun _ h9 => h9) rfl dX12_associates_32 ?_
        obtain ⟨k4, hf⟩ := ck_some hf
        refine lv_idiv hx hb dX12_associates_35 (nzB_nz k4) ?_
        refine lv_aload_n hx hb dX12_associates_36 rfl (lv_at hl 1 rfl) ?_
        refine va_get (C := RX12) (T := TX12) (N := 22) hx hb hw bfX120 hown hK hP 0 (gm_0 E g a) rfl 0 (by decide) (hw _ bw755) (fun _ h9 => h9) rfl dX12_associates_37 ?_
        obtain ⟨k5, hf⟩ := ck_some hf
        refine lv_irem hx hb dX12_associates_40 (nzB_nz k5) ?_
        refine lv_istore (lv' := [(5, .int ((x3 / (g 0)) - (x3 / (g 0)) / (g 0) * (g 0))), (4, .int (x3 - x3 / (g 0) * (g 0))), (0, .ref (E.2.1 0)), (1, .int x1), (2, .int x2), (3, .int x3)]) hx hb dX12_associates_41 hl (by decide) rfl (fun ls hl => ?_)
        refine lv_iload_n hx hb dX12_associates_43 rfl (lv_at hl 5 rfl) ?_
        refine lv_aload_n hx hb dX12_associates_44 rfl (lv_at hl 2 rfl) ?_
        refine va_get (C := RX12) (T := TX12) (N := 22) hx hb hw bfX120 hown hK hP 0 (gm_0 E g a) rfl 0 (by decide) (hw _ bw755) (fun _ h9 => h9) rfl dX12_associates_45 ?_
        obtain ⟨k6, hf⟩ := ck_some hf
        refine lv_idiv hx hb dX12_associates_48 (nzB_nz k6) ?_
        refine lv_aload_n hx hb dX12_associates_49 rfl (lv_at hl 2 rfl) ?_
        refine va_get (C := RX12) (T := TX12) (N := 22) hx hb hw bfX120 hown hK hP 0 (gm_0 E g a) rfl 0 (by decide) (hw _ bw755) (fun _ h9 => h9) rfl dX12_associates_50 ?_
        obtain ⟨k7, hf⟩ := ck_some hf
        refine lv_idiv hx hb dX12_associates_53 (nzB_nz k7) ?_
        refine lv_istore (lv' := [(6, .int ((x3 / (g 0)) / (g 0))), (5, .int ((x3 / (g 0)) - (x3 / (g 0)) / (g 0) * (g 0))), (4, .int (x3 - x3 / (g 0) * (g 0))), (0, .ref (E.2.1 0)), (1, .int x1), (2, .int x2), (3, .int x3)]) hx hb dX12_associates_54 hl (by decide) rfl (fun ls hl => ?_)
        refine lv_iload_n hx hb dX12_associates_56 rfl (lv_at hl 5 rfl) ?_
        refine lv_if_eq (tgt := 103) hx hb dX12_associates_57 (by decide) (fun c8 => ?_) (fun c8 => ?_)
        · replace hf := (if_pos c8).symm.trans hf
          refine lv_iconst (v := 0) hx hb dX12_associates_103 (by decide) ?_
          refine lv_istore_n (lv' := [(2, .int 0), (6, .int ((x3 / (g 0)) / (g 0))), (5, .int ((x3 / (g 0)) - (x3 / (g 0)) / (g 0) * (g 0))), (4, .int (x3 - x3 / (g 0) * (g 0))), (0, .ref (E.2.1 0)), (1, .int x1), (3, .int x3)]) hx hb dX12_associates_104 rfl hl (by decide) rfl (fun ls hl => ?_)
          refine lv_iinc (v := (x3 + 1)) (lv' := [(3, .int (x3 + 1)), (2, .int 0), (6, .int ((x3 / (g 0)) / (g 0))), (5, .int ((x3 / (g 0)) - (x3 / (g 0)) / (g 0) * (g 0))), (4, .int (x3 - x3 / (g 0) * (g 0))), (0, .ref (E.2.1 0)), (1, .int x1)]) hx hb dX12_associates_105 hl (k := 6) rfl rfl (by decide) rfl (fun ls hl => ?_)
          refine lv_goto (tgt := 4) hx hb dX12_associates_108 (by decide) ?_
          exact ih x1 0 (x3 + 1) _ _ _ hP hS (lv_sub hl [5, 6, 1, 0] rfl) hf
        · replace hf := (if_neg c8).symm.trans hf
          refine lv_aload_n hx hb dX12_associates_60 rfl (lv_at hl 3 rfl) ?_
          refine lv_iload_n hx hb dX12_associates_61 rfl (lv_at hl 4 rfl) ?_
          refine lv_iload hx hb dX12_associates_62 (lv_at hl 2 rfl) ?_
          refine lv_aload_n hx hb dX12_associates_64 rfl (lv_at hl 3 rfl) ?_
          refine lv_iload_n hx hb dX12_associates_65 rfl (lv_at hl 4 rfl) ?_
          refine lv_iload hx hb dX12_associates_66 (lv_at hl 1 rfl) ?_
          refine lv_iload hx hb dX12_associates_68 (lv_at hl 0 rfl) ?_
          refine lv_iconst (v := 0) hx hb dX12_associates_70 (by decide) ?_
          obtain ⟨u9, e10, hf⟩ := bd_some hf
          refine xci (xRunV (rest := [.int (x3 - x3 / (g 0) * (g 0)), .int x1, .ref (E.2.1 0)]) (As := [.int x1, .int ((x3 / (g 0)) - (x3 / (g 0)) / (g 0) * (g 0)), .int ((x3 / (g 0)) / (g 0)), .int 0]) (C := RX12) (k := 4) C0 (c_X12_answer l E g a x1 ((x3 / (g 0)) - (x3 / (g 0)) / (g 0) * (g 0)) ((x3 / (g 0)) / (g 0)) 0 e10) bw848 bw850 bw778 bw851 bw852 hd_X12_answer ⟨Nat.le_of_ble_eq_true rfl, Nat.le_of_ble_eq_true rfl⟩ hP (wM_D hD) hS (va_recv hK hP (ci := 12) rfl (gm_0 E g a)) rfl hl.1 rfl (Nat.le_of_ble_eq_true rfl) dX12_associates_71 ⟨Nat.zero_le _, Nat.zero_le _⟩) hS (fun H locs hP hS => ?_)
          refine lv_iconst (v := 0) hx hb dX12_associates_74 (by decide) ?_
          obtain ⟨u11, e12, hf⟩ := bd_some hf
          refine xci (xRunV (rest := []) (As := [.int x1, .int (x3 - x3 / (g 0) * (g 0)), .int u9, .int 0]) (C := RX12) (k := 4) C0 (c_X12_answer l E g a x1 (x3 - x3 / (g 0) * (g 0)) u9 0 e12) bw848 bw850 bw778 bw851 bw852 hd_X12_answer ⟨Nat.le_of_ble_eq_true rfl, Nat.le_of_ble_eq_true rfl⟩ hP (wM_D hD) hS (va_recv hK hP (ci := 12) rfl (gm_0 E g a)) rfl hl.1 rfl (Nat.le_of_ble_eq_true rfl) dX12_associates_75 ⟨Nat.zero_le _, Nat.zero_le _⟩) hS (fun H locs hP hS => ?_)
          refine lv_aload_n hx hb dX12_associates_78 rfl (lv_at hl 3 rfl) ?_
          refine lv_iload_n hx hb dX12_associates_79 rfl (lv_at hl 4 rfl) ?_
          refine lv_aload_n hx hb dX12_associates_80 rfl (lv_at hl 3 rfl) ?_
          refine lv_iload_n hx hb dX12_associates_81 rfl (lv_at hl 4 rfl) ?_
          refine lv_iload hx hb dX12_associates_82 (lv_at hl 2 rfl) ?_
          refine lv_iload hx hb dX12_associates_84 (lv_at hl 1 rfl) ?_
          refine lv_iconst (v := 0) hx hb dX12_associates_86 (by decide) ?_
          obtain ⟨u13, e14, hf⟩ := bd_some hf
          refine xci (xRunV (rest := [.int x1, .ref (E.2.1 0), .int u11]) (As := [.int x1, .int (x3 - x3 / (g 0) * (g 0)), .int ((x3 / (g 0)) - (x3 / (g 0)) / (g 0) * (g 0)), .int 0]) (C := RX12) (k := 4) C0 (c_X12_answer l E g a x1 (x3 - x3 / (g 0) * (g 0)) ((x3 / (g 0)) - (x3 / (g 0)) / (g 0) * (g 0)) 0 e14) bw848 bw850 bw778 bw851 bw852 hd_X12_answer ⟨Nat.le_of_ble_eq_true rfl, Nat.le_of_ble_eq_true rfl⟩ hP (wM_D hD) hS (va_recv hK hP (ci := 12) rfl (gm_0 E g a)) rfl hl.1 rfl (Nat.le_of_ble_eq_true rfl) dX12_associates_87 ⟨Nat.zero_le _, Nat.zero_le _⟩) hS (fun H locs hP hS => ?_)
          refine lv_iload hx hb dX12_associates_90 (lv_at hl 0 rfl) ?_
          refine lv_iconst (v := 0) hx hb dX12_associates_92 (by decide) ?_
          obtain ⟨u15, e16, hf⟩ := bd_some hf
          refine xci (xRunV (rest := [.int u11]) (As := [.int x1, .int u13, .int ((x3 / (g 0)) / (g 0)), .int 0]) (C := RX12) (k := 4) C0 (c_X12_answer l E g a x1 u13 ((x3 / (g 0)) / (g 0)) 0 e16) bw848 bw850 bw778 bw851 bw852 hd_X12_answer ⟨Nat.le_of_ble_eq_true rfl, Nat.le_of_ble_eq_true rfl⟩ hP (wM_D hD) hS (va_recv hK hP (ci := 12) rfl (gm_0 E g a)) rfl hl.1 rfl (Nat.le_of_ble_eq_true rfl) dX12_associates_93 ⟨Nat.zero_le _, Nat.zero_le _⟩) hS (fun H locs hP hS => ?_)
          refine lv_icmp_ne (tgt := 103) hx hb dX12_associates_96 (by decide) (fun c17 => ?_) (fun c17 => ?_)
          · replace hf := (if_neg c17).symm.trans hf
            refine lv_iconst (v := 0) hx hb dX12_associates_103 (by decide) ?_
            refine lv_istore_n (lv' := [(2, .int 0), (6, .int ((x3 / (g 0)) / (g 0))), (5, .int ((x3 / (g 0)) - (x3 / (g 0)) / (g 0) * (g 0))), (4, .int (x3 - x3 / (g 0) * (g 0))), (0, .ref (E.2.1 0)), (1, .int x1), (3, .int x3)]) hx hb dX12_associates_104 rfl hl (by decide) rfl (fun ls hl => ?_)
            refine lv_iinc (v := (x3 + 1)) (lv' := [(3, .int (x3 + 1)), (2, .int 0), (6, .int ((x3 / (g 0)) / (g 0))), (5, .int ((x3 / (g 0)) - (x3 / (g 0)) / (g 0) * (g 0))), (4, .int (x3 - x3 / (g 0) * (g 0))), (0, .ref (E.2.1 0)), (1, .int x1)]) hx hb dX12_associates_105 hl (k := 6) rfl rfl (by decide) rfl (fun ls hl => ?_)
            refine lv_goto (tgt := 4) hx hb dX12_associates_108 (by decide) ?_
            exact ih x1 0 (x3 + 1) _ _ _ hP hS (lv_sub hl [5, 6, 1, 0] rfl) hf
          · replace hf := (if_pos c17).symm.trans hf
            refine lv_iconst (v := 1) hx hb dX12_associates_99 (by decide) ?_
            refine lv_goto (tgt := 104) hx hb dX12_associates_100 (by decide) ?_
            refine lv_istore_n (lv' := [(2, .int 1), (6, .int ((x3 / (g 0)) / (g 0))), (5, .int ((x3 / (g 0)) - (x3 / (g 0)) / (g 0) * (g 0))), (4, .int (x3 - x3 / (g 0) * (g 0))), (0, .ref (E.2.1 0)), (1, .int x1), (3, .int x3)]) hx hb dX12_associates_104 rfl hl (by decide) rfl (fun ls hl => ?_)
            refine lv_iinc (v := (x3 + 1)) (lv' := [(3, .int (x3 + 1)), (2, .int 1), (6, .int ((x3 / (g 0)) / (g 0))), (5, .int ((x3 / (g 0)) - (x3 / (g 0)) / (g 0) * (g 0))), (4, .int (x3 - x3 / (g 0) * (g 0))), (0, .ref (E.2.1 0)), (1, .int x1)]) hx hb dX12_associates_105 hl (k := 6) rfl rfl (by decide) rfl (fun ls hl => ?_)
            refine lv_goto (tgt := 4) hx hb dX12_associates_108 (by decide) ?_
            exact ih x1 1 (x3 + 1) _ _ _ hP hS (lv_sub hl [5, 6, 1, 0] rfl) hf
  refine lv_iconst (v := 1) hx hb dX12_associates_0 (by decide) ?_
  refine lv_istore_n (lv' := [(2, .int 1), (0, .ref (E.2.1 0)), (1, .int v1)]) hx hb dX12_associates_1 rfl hl (by decide) rfl (fun ls hl => ?_)
  refine lv_iconst (v := 0) hx hb dX12_associates_2 (by decide) ?_
  refine lv_istore_n (lv' := [(3, .int 0), (2, .int 1), (0, .ref (E.2.1 0)), (1, .int v1)]) hx hb dX12_associates_3 rfl hl (by decide) rfl (fun ls hl => ?_)
  exact B4 fu v1 1 0 _ _ _ hP hS (lv_sub hl [2, 3, 1, 0] rfl) hf
def f_X12_isMajority_15 (g : xG) (a : xA) (K4 : Int32 → Int32 → Int32 → Option (Int32)) : Nat → Int32 → Int32 → Int32 → Int32 → Option (Int32)
  | 0, _, _, _, _ => none
  | n + 1, x1, x2, x3, x4 => (if (g 0) ≤ x4 then K4 x1 x2 (x3 + 1) else (if x2 = 0 then f_X12_isMajority_15 g a K4 n x1 0 x3 (x4 + 1) else Option.bind (f_X12_answer g a x1 x3 x3 x4) (fun u5 => (if u5 = x3 then Option.bind (f_X12_answer g a x1 x3 x4 x3) (fun u8 => (if u8 = x3 then Option.bind (f_X12_answer g a x1 x4 x3 x3) (fun u11 => (if u11 = x3 then f_X12_isMajority_15 g a K4 n x1 1 x3 (x4 + 1) else f_X12_isMajority_15 g a K4 n x1 0 x3 (x4 + 1))) else f_X12_isMajority_15 g a K4 n x1 0 x3 (x4 + 1))) else f_X12_isMajority_15 g a K4 n x1 0 x3 (x4 + 1)))))
theorem e_X12_isMajority_15 (g : xG) (a : xA) (K4 : Int32 → Int32 → Int32 → Option (Int32)) (n : Nat) (x1 : Int32) (x2 : Int32) (x3 : Int32) (x4 : Int32) : f_X12_isMajority_15 g a K4 (n + 1) x1 x2 x3 x4 = (if (g 0) ≤ x4 then K4 x1 x2 (x3 + 1) else (if x2 = 0 then f_X12_isMajority_15 g a K4 n x1 0 x3 (x4 + 1) else Option.bind (f_X12_answer g a x1 x3 x3 x4) (fun u5 => (if u5 = x3 then Option.bind (f_X12_answer g a x1 x3 x4 x3) (fun u8 => (if u8 = x3 then Option.bind (f_X12_answer g a x1 x4 x3 x3) (fun u11 => (if u11 = x3 then f_X12_isMajority_15 g a K4 n x1 1 x3 (x4 + 1) else f_X12_isMajority_15 g a K4 n x1 0 x3 (x4 + 1))) else f_X12_isMajority_15 g a K4 n x1 0 x3 (x4 + 1))) else f_X12_isMajority_15 g a K4 n x1 0 x3 (x4 + 1))))) := rfl
def f_X12_isMajority_4 (g : xG) (a : xA) : Nat → Int32 → Int32 → Int32 → Option (Int32)
  | 0, _, _, _ => none
  | n + 1, x1, x2, x3 => (if (g 0) ≤ x3 then ck (boB x2) (some x2) else f_X12_isMajority_15 g a (f_X12_isMajority_4 g a n) fu x1 x2 x3 0)
theorem e_X12_isMajority_4 (g : xG) (a : xA) (n : Nat) (x1 : Int32) (x2 : Int32) (x3 : Int32) : f_X12_isMajority_4 g a (n + 1) x1 x2 x3 = (if (g 0) ≤ x3 then ck (boB x2) (some x2) else f_X12_isMajority_15 g a (f_X12_isMajority_4 g a n) fu x1 x2 x3 0) := rfl
def f_X12_isMajority (g : xG) (a : xA) (v1 : Int32) : Option (Int32) := f_X12_isMajority_4 g a fu v1 1 0
set_option maxRecDepth 100000 in
set_option maxHeartbeats 40000000 in
theorem c_X12_isMajority (l : Launch) (E : xE) (g : xG) (a : xA) (v1 : Int32) {res : Int32} (hf : f_X12_isMajority g a v1 = some res) : xM l E yX12_isMajority cX12_isMajority 5 (some .boolean) 1 24 [.ref (E.2.1 0), .int v1] (wM E g a) (xQi E res (wM E g a)) := by
  unfold f_X12_isMajority at hf
  refine xM_of (by decide) (Nat.le_of_ble_eq_true rfl) ?_
  intro p e s m below meth c A hx hb hr hml hts hown hlocks hA hD hP hK hN hS ls hl
  have hw : ∀ w ∈ BW, w.before _ s = true := fun w h => hts w (List.mem_cons_of_mem _ h)
  have C0 : xCtx E p m c cX12_isMajority 5 s _ RX12 A yX12_isMajority cX12_isMajority 5 (some .boolean) := ⟨hx, hb, hml, hown, hts, hA, hK, hN⟩
  have hl : lv_has ls 5 [(0, .ref (E.2.1 0)), (1, .int v1)] := hl
  have B15 : ∀ (K4 : Int32 → Int32 → Int32 → Option (Int32)) (hK4 : ∀ (x1 : Int32) (x2 : Int32) (x3 : Int32) (H : Heap) (locs : List Loc) (ls : Array Slot), va_P E.1 vwCl (wM E g a) H → va_S A s.heap H locs → lv_has ls 5 [(0, .ref (E.2.1 0)), (1, .int x1), (2, .int x2), (3, .int x3)] → K4 x1 x2 x3 = some res → W p l e ({ frames := 1, cells := 0, slots := 0, locals := 24 }) s m ([.ref (E.2.1 0), .int v1] : List Value).toArray below meth c H locs 0 0 (MQ below ((xQi E res (wM E g a)) A) ([.ref (E.2.1 0), .int v1] : List Value).toArray s 0 0 A) (F0 m 4 ls [])) (n : Nat) (x1 : Int32) (x2 : Int32) (x3 : Int32) (x4 : Int32) (H : Heap) (locs : List Loc) (ls : Array Slot), va_P E.1 vwCl (wM E g a) H → va_S A s.heap H locs → lv_has ls 5 [(0, .ref (E.2.1 0)), (1, .int x1), (2, .int x2), (3, .int x3), (4, .int x4)] → f_X12_isMajority_15 g a K4 n x1 x2 x3 x4 = some res → W p l e ({ frames := 1, cells := 0, slots := 0, locals := 24 }) s m ([.ref (E.2.1 0), .int v1] : List Value).toArray below meth c H locs 0 0 (MQ below ((xQi E res (wM E g a)) A) ([.ref (E.2.1 0), .int v1] : List Value).toArray s 0 0 A) (F0 m 15 ls []) := by
    intro K4 hK4 n
    induction n with
    | zero => intro x1 x2 x3 x4 H locs ls hP hS hl hf; exact absurd (show (none : Option (Int32)) = some res from hf) (by intro h; cases h)
    | succ n ih =>
      intro x1 x2 x3 x4 H locs ls hP hS hl hf
      replace hf := (e_X12_isMajority_15 g a K4 n x1 x2 x3 x4).symm.trans hf
      refine lv_iload hx hb dX12_isMajority_15 (lv_at hl 4 rfl) ?_
      refine lv_aload_n hx hb dX12_isMajority_17 rfl (lv_at hl 0 rfl) ?_
      refine va_get (C := RX12) (T := TX12) (N := 22) hx hb hw bfX120 hown hK hP 0 (gm_0 E g a) rfl 0 (by decide) (hw _ bw755) (fun _ h9 => h9) rfl dX12_isMajority_18 ?_
      refine lv_icmp_ge (tgt := 79) hx hb dX12_isMajority_21 (by decide) (fun c3 => ?_) (fun c3 => ?_)
      · replace hf := (if_pos c3).symm.trans hf
        refine lv_iinc (v := (x3 + 1)) (lv' := [(3, .int (x3 + 1)), (0, .ref (E.2.1 0)), (1, .int x1), (2, .int x2), (4, .int x4)]) hx hb dX12_isMajority_79 hl (k := 3) rfl rfl (by decide) rfl (fun ls hl => ?_)
        refine lv_goto (tgt := 4) hx hb dX12_isMajority_82 (by decide) ?_
        exact hK4 x1 x2 (x3 + 1) _ _ _ hP hS (lv_sub hl [1, 2, 3, 0] rfl) hf
      · replace hf := (if_neg c3).symm.trans hf
        refine lv_iload_n hx hb dX12_isMajority_24 rfl (lv_at hl 2 rfl) ?_
        refine lv_if_eq (tgt := 71) hx hb dX12_isMajority_25 (by decide) (fun c4 => ?_) (fun c4 => ?_)
        · replace hf := (if_pos c4).symm.trans hf
          refine lv_iconst (v := 0) hx hb dX12_isMajority_71 (by decide) ?_
          refine lv_istore_n (lv' := [(2, .int 0), (0, .ref (E.2.1 0)), (1, .int x1), (3, .int x3), (4, .int x4)]) hx hb dX12_isMajority_72 rfl hl (by decide) rfl (fun ls hl => ?_)
          refine lv_iinc (v := (x4 + 1)) (lv' := [(4, .int (x4 + 1)), (2, .int 0), (0, .ref (E.2.1 0)), (1, .int x1), (3, .int x3)]) hx hb dX12_isMajority_73 hl (k := 4) rfl rfl (by decide) rfl (fun ls hl => ?_)
          refine lv_goto (tgt := 15) hx hb dX12_isMajority_76 (by decide) ?_
          exact ih x1 0 x3 (x4 + 1) _ _ _ hP hS (lv_sub hl [2, 3, 1, 4, 0] rfl) hf
        · replace hf := (if_neg c4).symm.trans hf
          refine lv_aload_n hx hb dX12_isMajority_28 rfl (lv_at hl 0 rfl) ?_
          refine lv_iload_n hx hb dX12_isMajority_29 rfl (lv_at hl 1 rfl) ?_
          refine lv_iload_n hx hb dX12_isMajority_30 rfl (lv_at hl 3 rfl) ?_
          refine lv_iload_n hx hb dX12_isMajority_31 rfl (lv_at hl 3 rfl) ?_
          refine lv_iload hx hb dX12_isMajority_32 (lv_at hl 4 rfl) ?_
          obtain ⟨u5, e6, hf⟩ := bd_some hf
          refine xci (xRunV (rest := []) (As := [.int x1, .int x3, .int x3, .int x4]) (C := RX12) (k := 4) C0 (c_X12_answer l E g a x1 x3 x3 x4 e6) bw848 bw850 bw778 bw851 bw852 hd_X12_answer ⟨Nat.le_of_ble_eq_true rfl, Nat.le_of_ble_eq_true rfl⟩ hP (wM_D hD) hS (va_recv hK hP (ci := 12) rfl (gm_0 E g a)) rfl hl.1 rfl (Nat.le_of_ble_eq_true rfl) dX12_isMajority_34 ⟨Nat.zero_le _, Nat.zero_le _⟩) hS (fun H locs hP hS => ?_)
          refine lv_iload_n hx hb dX12_isMajority_37 rfl (lv_at hl 3 rfl) ?_
          refine lv_icmp_ne (tgt := 71) hx hb dX12_isMajority_38 (by decide) (fun c7 => ?_) (fun c7 => ?_)
          · replace hf := (if_neg c7).symm.trans hf
            refine lv_iconst (v := 0) hx hb dX12_isMajority_71 (by decide) ?_
            refine lv_istore_n (lv' := [(2, .int 0), (0, .ref (E.2.1 0)), (1, .int x1), (3, .int x3), (4, .int x4)]) hx hb dX12_isMajority_72 rfl hl (by decide) rfl (fun ls hl => ?_)
            refine lv_iinc (v := (x4 + 1)) (lv' := [(4, .int (x4 + 1)), (2, .int 0), (0, .ref (E.2.1 0)), (1, .int x1), (3, .int x3)]) hx hb dX12_isMajority_73 hl (k := 4) rfl rfl (by decide) rfl (fun ls hl => ?_)
            refine lv_goto (tgt := 15) hx hb dX12_isMajority_76 (by decide) ?_
            exact ih x1 0 x3 (x4 + 1) _ _ _ hP hS (lv_sub hl [2, 3, 1, 4, 0] rfl) hf
          · replace hf := (if_pos c7).symm.trans hf
            refine lv_aload_n hx hb dX12_isMajority_41 rfl (lv_at hl 0 rfl) ?_
            refine lv_iload_n hx hb dX12_isMajority_42 rfl (lv_at hl 1 rfl) ?_
            refine lv_iload_n hx hb dX12_isMajority_43 rfl (lv_at hl 3 rfl) ?_
            refine lv_iload hx hb dX12_isMajority_44 (lv_at hl 4 rfl) ?_
            refine lv_iload_n hx hb dX12_isMajority_46 rfl (lv_at hl 3 rfl) ?_
            obtain ⟨u8, e9, hf⟩ := bd_some hf
            refine xci (xRunV (rest := []) (As := [.int x1, .int x3, .int x4, .int x3]) (C := RX12) (k := 4) C0 (c_X12_answer l E g a x1 x3 x4 x3 e9) bw848 bw850 bw778 bw851 bw852 hd_X12_answer ⟨Nat.le_of_ble_eq_true rfl, Nat.le_of_ble_eq_true rfl⟩ hP (wM_D hD) hS (va_recv hK hP (ci := 12) rfl (gm_0 E g a)) rfl hl.1 rfl (Nat.le_of_ble_eq_true rfl) dX12_isMajority_47 ⟨Nat.zero_le _, Nat.zero_le _⟩) hS (fun H locs hP hS => ?_)
            refine lv_iload_n hx hb dX12_isMajority_50 rfl (lv_at hl 3 rfl) ?_
            refine lv_icmp_ne (tgt := 71) hx hb dX12_isMajority_51 (by decide) (fun c10 => ?_) (fun c10 => ?_)
            · replace hf := (if_neg c10).symm.trans hf
              refine lv_iconst (v := 0) hx hb dX12_isMajority_71 (by decide) ?_
              refine lv_istore_n (lv' := [(2, .int 0), (0, .ref (E.2.1 0)), (1, .int x1), (3, .int x3), (4, .int x4)]) hx hb dX12_isMajority_72 rfl hl (by decide) rfl (fun ls hl => ?_)
              refine lv_iinc (v := (x4 + 1)) (lv' := [(4, .int (x4 + 1)), (2, .int 0), (0, .ref (E.2.1 0)), (1, .int x1), (3, .int x3)]) hx hb dX12_isMajority_73 hl (k := 4) rfl rfl (by decide) rfl (fun ls hl => ?_)
              refine lv_goto (tgt := 15) hx hb dX12_isMajority_76 (by decide) ?_
              exact ih x1 0 x3 (x4 + 1) _ _ _ hP hS (lv_sub hl [2, 3, 1, 4, 0] rfl) hf
            · replace hf := (if_pos c10).symm.trans hf
              refine lv_aload_n hx hb dX12_isMajority_54 rfl (lv_at hl 0 rfl) ?_
              refine lv_iload_n hx hb dX12_isMajority_55 rfl (lv_at hl 1 rfl) ?_
              refine lv_iload hx hb dX12_isMajority_56 (lv_at hl 4 rfl) ?_
              refine lv_iload_n hx hb dX12_isMajority_58 rfl (lv_at hl 3 rfl) ?_
              refine lv_iload_n hx hb dX12_isMajority_59 rfl (lv_at hl 3 rfl) ?_
              obtain ⟨u11, e12, hf⟩ := bd_some hf
              refine xci (xRunV (rest := []) (As := [.int x1, .int x4, .int x3, .int x3]) (C := RX12) (k := 4) C0 (c_X12_answer l E g a x1 x4 x3 x3 e12) bw848 bw850 bw778 bw851 bw852 hd_X12_answer ⟨Nat.le_of_ble_eq_true rfl, Nat.le_of_ble_eq_true rfl⟩ hP (wM_D hD) hS (va_recv hK hP (ci := 12) rfl (gm_0 E g a)) rfl hl.1 rfl (Nat.le_of_ble_eq_true rfl) dX12_isMajority_60 ⟨Nat.zero_le _, Nat.zero_le _⟩) hS (fun H locs hP hS => ?_)
              refine lv_iload_n hx hb dX12_isMajority_63 rfl (lv_at hl 3 rfl) ?_
              refine lv_icmp_ne (tgt := 71) hx hb dX12_isMajority_64 (by decide) (fun c13 => ?_) (fun c13 => ?_)
              · replace hf := (if_neg c13).symm.trans hf
                refine lv_iconst (v := 0) hx hb dX12_isMajority_71 (by decide) ?_
                refine lv_istore_n (lv' := [(2, .int 0), (0, .ref (E.2.1 0)), (1, .int x1), (3, .int x3), (4, .int x4)]) hx hb dX12_isMajority_72 rfl hl (by decide) rfl (fun ls hl => ?_)
                refine lv_iinc (v := (x4 + 1)) (lv' := [(4, .int (x4 + 1)), (2, .int 0), (0, .ref (E.2.1 0)), (1, .int x1), (3, .int x3)]) hx hb dX12_isMajority_73 hl (k := 4) rfl rfl (by decide) rfl (fun ls hl => ?_)
                refine lv_goto (tgt := 15) hx hb dX12_isMajority_76 (by decide) ?_
                exact ih x1 0 x3 (x4 + 1) _ _ _ hP hS (lv_sub hl [2, 3, 1, 4, 0] rfl) hf
              · replace hf := (if_pos c13).symm.trans hf
                refine lv_iconst (v := 1) hx hb dX12_isMajority_67 (by decide) ?_
                refine lv_goto (tgt := 72) hx hb dX12_isMajority_68 (by decide) ?_
                refine lv_istore_n (lv' := [(2, .int 1), (0, .ref (E.2.1 0)), (1, .int x1), (3, .int x3), (4, .int x4)]) hx hb dX12_isMajority_72 rfl hl (by decide) rfl (fun ls hl => ?_)
                refine lv_iinc (v := (x4 + 1)) (lv' := [(4, .int (x4 + 1)), (2, .int 1), (0, .ref (E.2.1 0)), (1, .int x1), (3, .int x3)]) hx hb dX12_isMajority_73 hl (k := 4) rfl rfl (by decide) rfl (fun ls hl => ?_)
                refine lv_goto (tgt := 15) hx hb dX12_isMajority_76 (by decide) ?_
                exact ih x1 1 x3 (x4 + 1) _ _ _ hP hS (lv_sub hl [2, 3, 1, 4, 0] rfl) hf
  have B4 : ∀ (n : Nat) (x1 : Int32) (x2 : Int32) (x3 : Int32) (H : Heap) (locs : List Loc) (ls : Array Slot), va_P E.1 vwCl (wM E g a) H → va_S A s.heap H locs → lv_has ls 5 [(0, .ref (E.2.1 0)), (1, .int x1), (2, .int x2), (3, .int x3)] → f_X12_isMajority_4 g a n x1 x2 x3 = some res → W p l e ({ frames := 1, cells := 0, slots := 0, locals := 24 }) s m ([.ref (E.2.1 0), .int v1] : List Value).toArray below meth c H locs 0 0 (MQ below ((xQi E res (wM E g a)) A) ([.ref (E.2.1 0), .int v1] : List Value).toArray s 0 0 A) (F0 m 4 ls []) := by
    intro n
    induction n with
    | zero => intro x1 x2 x3 H locs ls hP hS hl hf; exact absurd (show (none : Option (Int32)) = some res from hf) (by intro h; cases h)
    | succ n ih =>
      intro x1 x2 x3 H locs ls hP hS hl hf
      replace hf := (e_X12_isMajority_4 g a n x1 x2 x3).symm.trans hf
      refine lv_iload_n hx hb dX12_isMajority_4 rfl (lv_at hl 3 rfl) ?_
      refine lv_aload_n hx hb dX12_isMajority_5 rfl (lv_at hl 0 rfl) ?_
      refine va_get (C := RX12) (T := TX12) (N := 22) hx hb hw bfX120 hown hK hP 0 (gm_0 E g a) rfl 0 (by decide) (hw _ bw755) (fun _ h9 => h9) rfl dX12_isMajority_6 ?_
      refine lv_icmp_ge (tgt := 85) hx hb dX12_isMajority_9 (by decide) (fun c1 => ?_) (fun c1 => ?_)
      · replace hf := (if_pos c1).symm.trans hf
        refine lv_iload_n hx hb dX12_isMajority_85 rfl (lv_at hl 2 rfl) ?_
        obtain ⟨k2, hf⟩ := ck_some hf
        exact xz_retS (fr := (fun r => r)) (fw := (fun r => wM E g a)) hx hb hr hlocks (Option.some.inj hf) (boB_bo k2) hP hS dX12_isMajority_86
      · replace hf := (if_neg c1).symm.trans hf
        refine lv_iconst (v := 0) hx hb dX12_isMajority_12 (by decide) ?_
        refine lv_istore (lv' := [(4, .int 0), (0, .ref (E.2.1 0)), (1, .int x1), (2, .int x2), (3, .int x3)]) hx hb dX12_isMajority_13 hl (by decide) rfl (fun ls hl => ?_)
        exact B15 (f_X12_isMajority_4 g a n) ih fu x1 x2 x3 0 _ _ _ hP hS (lv_sub hl [1, 2, 3, 4, 0] rfl) hf
  refine lv_iconst (v := 1) hx hb dX12_isMajority_0 (by decide) ?_
  refine lv_istore_n (lv' := [(2, .int 1), (0, .ref (E.2.1 0)), (1, .int v1)]) hx hb dX12_isMajority_1 rfl hl (by decide) rfl (fun ls hl => ?_)
  refine lv_iconst (v := 0) hx hb dX12_isMajority_2 (by decide) ?_
  refine lv_istore_n (lv' := [(3, .int 0), (2, .int 1), (0, .ref (E.2.1 0)), (1, .int v1)]) hx hb dX12_isMajority_3 rfl hl (by decide) rfl (fun ls hl => ?_)
  exact B4 fu v1 1 0 _ _ _ hP hS (lv_sub hl [2, 3, 1, 0] rfl) hf
def f_X12_isMaltsev_15 (g : xG) (a : xA) (K4 : Int32 → Int32 → Int32 → Option (Int32)) : Nat → Int32 → Int32 → Int32 → Int32 → Option (Int32)
  | 0, _, _, _, _ => none
  | n + 1, x1, x2, x3, x4 => (if (g 0) ≤ x4 then K4 x1 x2 (x3 + 1) else (if x2 = 0 then f_X12_isMaltsev_15 g a K4 n x1 0 x3 (x4 + 1) else Option.bind (f_X12_answer g a x1 x3 x4 x4) (fun u5 => (if u5 = x3 then Option.bind (f_X12_answer g a x1 x4 x4 x3) (fun u8 => (if u8 = x3 then f_X12_isMaltsev_15 g a K4 n x1 1 x3 (x4 + 1) else f_X12_isMaltsev_15 g a K4 n x1 0 x3 (x4 + 1))) else f_X12_isMaltsev_15 g a K4 n x1 0 x3 (x4 + 1)))))
theorem e_X12_isMaltsev_15 (g : xG) (a : xA) (K4 : Int32 → Int32 → Int32 → Option (Int32)) (n : Nat) (x1 : Int32) (x2 : Int32) (x3 : Int32) (x4 : Int32) : f_X12_isMaltsev_15 g a K4 (n + 1) x1 x2 x3 x4 = (if (g 0) ≤ x4 then K4 x1 x2 (x3 + 1) else (if x2 = 0 then f_X12_isMaltsev_15 g a K4 n x1 0 x3 (x4 + 1) else Option.bind (f_X12_answer g a x1 x3 x4 x4) (fun u5 => (if u5 = x3 then Option.bind (f_X12_answer g a x1 x4 x4 x3) (fun u8 => (if u8 = x3 then f_X12_isMaltsev_15 g a K4 n x1 1 x3 (x4 + 1) else f_X12_isMaltsev_15 g a K4 n x1 0 x3 (x4 + 1))) else f_X12_isMaltsev_15 g a K4 n x1 0 x3 (x4 + 1))))) := rfl
def f_X12_isMaltsev_4 (g : xG) (a : xA) : Nat → Int32 → Int32 → Int32 → Option (Int32)
  | 0, _, _, _ => none
  | n + 1, x1, x2, x3 => (if (g 0) ≤ x3 then ck (boB x2) (some x2) else f_X12_isMaltsev_15 g a (f_X12_isMaltsev_4 g a n) fu x1 x2 x3 0)
theorem e_X12_isMaltsev_4 (g : xG) (a : xA) (n : Nat) (x1 : Int32) (x2 : Int32) (x3 : Int32) : f_X12_isMaltsev_4 g a (n + 1) x1 x2 x3 = (if (g 0) ≤ x3 then ck (boB x2) (some x2) else f_X12_isMaltsev_15 g a (f_X12_isMaltsev_4 g a n) fu x1 x2 x3 0) := rfl
def f_X12_isMaltsev (g : xG) (a : xA) (v1 : Int32) : Option (Int32) := f_X12_isMaltsev_4 g a fu v1 1 0
set_option maxRecDepth 100000 in
set_option maxHeartbeats 40000000 in
theorem c_X12_isMaltsev (l : Launch) (E : xE) (g : xG) (a : xA) (v1 : Int32) {res : Int32} (hf : f_X12_isMaltsev g a v1 = some res) : xM l E yX12_isMaltsev cX12_isMaltsev 5 (some .boolean) 1 24 [.ref (E.2.1 0), .int v1] (wM E g a) (xQi E res (wM E g a)) := by
  unfold f_X12_isMaltsev at hf
  refine xM_of (by decide) (Nat.le_of_ble_eq_true rfl) ?_
  intro p e s m below meth c A hx hb hr hml hts hown hlocks hA hD hP hK hN hS ls hl
  have hw : ∀ w ∈ BW, w.before _ s = true := fun w h => hts w (List.mem_cons_of_mem _ h)
  have C0 : xCtx E p m c cX12_isMaltsev 5 s _ RX12 A yX12_isMaltsev cX12_isMaltsev 5 (some .boolean) := ⟨hx, hb, hml, hown, hts, hA, hK, hN⟩
  have hl : lv_has ls 5 [(0, .ref (E.2.1 0)), (1, .int v1)] := hl
  have B15 : ∀ (K4 : Int32 → Int32 → Int32 → Option (Int32)) (hK4 : ∀ (x1 : Int32) (x2 : Int32) (x3 : Int32) (H : Heap) (locs : List Loc) (ls : Array Slot), va_P E.1 vwCl (wM E g a) H → va_S A s.heap H locs → lv_has ls 5 [(0, .ref (E.2.1 0)), (1, .int x1), (2, .int x2), (3, .int x3)] → K4 x1 x2 x3 = some res → W p l e ({ frames := 1, cells := 0, slots := 0, locals := 24 }) s m ([.ref (E.2.1 0), .int v1] : List Value).toArray below meth c H locs 0 0 (MQ below ((xQi E res (wM E g a)) A) ([.ref (E.2.1 0), .int v1] : List Value).toArray s 0 0 A) (F0 m 4 ls [])) (n : Nat) (x1 : Int32) (x2 : Int32) (x3 : Int32) (x4 : Int32) (H : Heap) (locs : List Loc) (ls : Array Slot), va_P E.1 vwCl (wM E g a) H → va_S A s.heap H locs → lv_has ls 5 [(0, .ref (E.2.1 0)), (1, .int x1), (2, .int x2), (3, .int x3), (4, .int x4)] → f_X12_isMaltsev_15 g a K4 n x1 x2 x3 x4 = some res → W p l e ({ frames := 1, cells := 0, slots := 0, locals := 24 }) s m ([.ref (E.2.1 0), .int v1] : List Value).toArray below meth c H locs 0 0 (MQ below ((xQi E res (wM E g a)) A) ([.ref (E.2.1 0), .int v1] : List Value).toArray s 0 0 A) (F0 m 15 ls []) := by
    intro K4 hK4 n
    induction n with
    | zero => intro x1 x2 x3 x4 H locs ls hP hS hl hf; exact absurd (show (none : Option (Int32)) = some res from hf) (by intro h; cases h)
    | succ n ih =>
      intro x1 x2 x3 x4 H locs ls hP hS hl hf
      replace hf := (e_X12_isMaltsev_15 g a K4 n x1 x2 x3 x4).symm.trans hf
      refine lv_iload hx hb dX12_isMaltsev_15 (lv_at hl 4 rfl) ?_
      refine lv_aload_n hx hb dX12_isMaltsev_17 rfl (lv_at hl 0 rfl) ?_
      refine va_get (C := RX12) (T := TX12) (N := 22) hx hb hw bfX120 hown hK hP 0 (gm_0 E g a) rfl 0 (by decide) (hw _ bw755) (fun _ h9 => h9) rfl dX12_isMaltsev_18 ?_
      refine lv_icmp_ge (tgt := 68) hx hb dX12_isMaltsev_21 (by decide) (fun c3 => ?_) (fun c3 => ?_)
      · replace hf := (if_pos c3).symm.trans hf
        refine lv_iinc (v := (x3 + 1)) (lv' := [(3, .int (x3 + 1)), (0, .ref (E.2.1 0)), (1, .int x1), (2, .int x2), (4, .int x4)]) hx hb dX12_isMaltsev_68 hl (k := 3) rfl rfl (by decide) rfl (fun ls hl => ?_)
        refine lv_goto (tgt := 4) hx hb dX12_isMaltsev_71 (by decide) ?_
        exact hK4 x1 x2 (x3 + 1) _ _ _ hP hS (lv_sub hl [1, 2, 3, 0] rfl) hf
      · replace hf := (if_neg c3).symm.trans hf
        refine lv_iload_n hx hb dX12_isMaltsev_24 rfl (lv_at hl 2 rfl) ?_
        refine lv_if_eq (tgt := 60) hx hb dX12_isMaltsev_25 (by decide) (fun c4 => ?_) (fun c4 => ?_)
        · replace hf := (if_pos c4).symm.trans hf
          refine lv_iconst (v := 0) hx hb dX12_isMaltsev_60 (by decide) ?_
          refine lv_istore_n (lv' := [(2, .int 0), (0, .ref (E.2.1 0)), (1, .int x1), (3, .int x3), (4, .int x4)]) hx hb dX12_isMaltsev_61 rfl hl (by decide) rfl (fun ls hl => ?_)
          refine lv_iinc (v := (x4 + 1)) (lv' := [(4, .int (x4 + 1)), (2, .int 0), (0, .ref (E.2.1 0)), (1, .int x1), (3, .int x3)]) hx hb dX12_isMaltsev_62 hl (k := 4) rfl rfl (by decide) rfl (fun ls hl => ?_)
          refine lv_goto (tgt := 15) hx hb dX12_isMaltsev_65 (by decide) ?_
          exact ih x1 0 x3 (x4 + 1) _ _ _ hP hS (lv_sub hl [2, 3, 1, 4, 0] rfl) hf
        · replace hf := (if_neg c4).symm.trans hf
          refine lv_aload_n hx hb dX12_isMaltsev_28 rfl (lv_at hl 0 rfl) ?_
          refine lv_iload_n hx hb dX12_isMaltsev_29 rfl (lv_at hl 1 rfl) ?_
          refine lv_iload_n hx hb dX12_isMaltsev_30 rfl (lv_at hl 3 rfl) ?_
          refine lv_iload hx hb dX12_isMaltsev_31 (lv_at hl 4 rfl) ?_
          refine lv_iload hx hb dX12_isMaltsev_33 (lv_at hl 4 rfl) ?_
          obtain ⟨u5, e6, hf⟩ := bd_some hf
          refine xci (xRunV (rest := []) (As := [.int x1, .int x3, .int x4, .int x4]) (C := RX12) (k := 4) C0 (c_X12_answer l E g a x1 x3 x4 x4 e6) bw848 bw850 bw778 bw851 bw852 hd_X12_answer ⟨Nat.le_of_ble_eq_true rfl, Nat.le_of_ble_eq_true rfl⟩ hP (wM_D hD) hS (va_recv hK hP (ci := 12) rfl (gm_0 E g a)) rfl hl.1 rfl (Nat.le_of_ble_eq_true rfl) dX12_isMaltsev_35 ⟨Nat.zero_le _, Nat.zero_le _⟩) hS (fun H locs hP hS => ?_)
          refine lv_iload_n hx hb dX12_isMaltsev_38 rfl (lv_at hl 3 rfl) ?_
          refine lv_icmp_ne (tgt := 60) hx hb dX12_isMaltsev_39 (by decide) (fun c7 => ?_) (fun c7 => ?_)
          · replace hf := (if_neg c7).symm.trans hf
            refine lv_iconst (v := 0) hx hb dX12_isMaltsev_60 (by decide) ?_
            refine lv_istore_n (lv' := [(2, .int 0), (0, .ref (E.2.1 0)), (1, .int x1), (3, .int x3), (4, .int x4)]) hx hb dX12_isMaltsev_61 rfl hl (by decide) rfl (fun ls hl => ?_)
            refine lv_iinc (v := (x4 + 1)) (lv' := [(4, .int (x4 + 1)), (2, .int 0), (0, .ref (E.2.1 0)), (1, .int x1), (3, .int x3)]) hx hb dX12_isMaltsev_62 hl (k := 4) rfl rfl (by decide) rfl (fun ls hl => ?_)
            refine lv_goto (tgt := 15) hx hb dX12_isMaltsev_65 (by decide) ?_
            exact ih x1 0 x3 (x4 + 1) _ _ _ hP hS (lv_sub hl [2, 3, 1, 4, 0] rfl) hf
          · replace hf := (if_pos c7).symm.trans hf
            refine lv_aload_n hx hb dX12_isMaltsev_42 rfl (lv_at hl 0 rfl) ?_
            refine lv_iload_n hx hb dX12_isMaltsev_43 rfl (lv_at hl 1 rfl) ?_
            refine lv_iload hx hb dX12_isMaltsev_44 (lv_at hl 4 rfl) ?_
            refine lv_iload hx hb dX12_isMaltsev_46 (lv_at hl 4 rfl) ?_
            refine lv_iload_n hx hb dX12_isMaltsev_48 rfl (lv_at hl 3 rfl) ?_
            obtain ⟨u8, e9, hf⟩ := bd_some hf
            refine xci (xRunV (rest := []) (As := [.int x1, .int x4, .int x4, .int x3]) (C := RX12) (k := 4) C0 (c_X12_answer l E g a x1 x4 x4 x3 e9) bw848 bw850 bw778 bw851 bw852 hd_X12_answer ⟨Nat.le_of_ble_eq_true rfl, Nat.le_of_ble_eq_true rfl⟩ hP (wM_D hD) hS (va_recv hK hP (ci := 12) rfl (gm_0 E g a)) rfl hl.1 rfl (Nat.le_of_ble_eq_true rfl) dX12_isMaltsev_49 ⟨Nat.zero_le _, Nat.zero_le _⟩) hS (fun H locs hP hS => ?_)
            refine lv_iload_n hx hb dX12_isMaltsev_52 rfl (lv_at hl 3 rfl) ?_
            refine lv_icmp_ne (tgt := 60) hx hb dX12_isMaltsev_53 (by decide) (fun c10 => ?_) (fun c10 => ?_)
            · replace hf := (if_neg c10).symm.trans hf
              refine lv_iconst (v := 0) hx hb dX12_isMaltsev_60 (by decide) ?_
              refine lv_istore_n (lv' := [(2, .int 0), (0, .ref (E.2.1 0)), (1, .int x1), (3, .int x3), (4, .int x4)]) hx hb dX12_isMaltsev_61 rfl hl (by decide) rfl (fun ls hl => ?_)
              refine lv_iinc (v := (x4 + 1)) (lv' := [(4, .int (x4 + 1)), (2, .int 0), (0, .ref (E.2.1 0)), (1, .int x1), (3, .int x3)]) hx hb dX12_isMaltsev_62 hl (k := 4) rfl rfl (by decide) rfl (fun ls hl => ?_)
              refine lv_goto (tgt := 15) hx hb dX12_isMaltsev_65 (by decide) ?_
              exact ih x1 0 x3 (x4 + 1) _ _ _ hP hS (lv_sub hl [2, 3, 1, 4, 0] rfl) hf
            · replace hf := (if_pos c10).symm.trans hf
              refine lv_iconst (v := 1) hx hb dX12_isMaltsev_56 (by decide) ?_
              refine lv_goto (tgt := 61) hx hb dX12_isMaltsev_57 (by decide) ?_
              refine lv_istore_n (lv' := [(2, .int 1), (0, .ref (E.2.1 0)), (1, .int x1), (3, .int x3), (4, .int x4)]) hx hb dX12_isMaltsev_61 rfl hl (by decide) rfl (fun ls hl => ?_)
              refine lv_iinc (v := (x4 + 1)) (lv' := [(4, .int (x4 + 1)), (2, .int 1), (0, .ref (E.2.1 0)), (1, .int x1), (3, .int x3)]) hx hb dX12_isMaltsev_62 hl (k := 4) rfl rfl (by decide) rfl (fun ls hl => ?_)
              refine lv_goto (tgt := 15) hx hb dX12_isMaltsev_65 (by decide) ?_
              exact ih x1 1 x3 (x4 + 1) _ _ _ hP hS (lv_sub hl [2, 3, 1, 4, 0] rfl) hf
  have B4 : ∀ (n : Nat) (x1 : Int32) (x2 : Int32) (x3 : Int32) (H : Heap) (locs : List Loc) (ls : Array Slot), va_P E.1 vwCl (wM E g a) H → va_S A s.heap H locs → lv_has ls 5 [(0, .ref (E.2.1 0)), (1, .int x1), (2, .int x2), (3, .int x3)] → f_X12_isMaltsev_4 g a n x1 x2 x3 = some res → W p l e ({ frames := 1, cells := 0, slots := 0, locals := 24 }) s m ([.ref (E.2.1 0), .int v1] : List Value).toArray below meth c H locs 0 0 (MQ below ((xQi E res (wM E g a)) A) ([.ref (E.2.1 0), .int v1] : List Value).toArray s 0 0 A) (F0 m 4 ls []) := by
    intro n
    induction n with
    | zero => intro x1 x2 x3 H locs ls hP hS hl hf; exact absurd (show (none : Option (Int32)) = some res from hf) (by intro h; cases h)
    | succ n ih =>
      intro x1 x2 x3 H locs ls hP hS hl hf
      replace hf := (e_X12_isMaltsev_4 g a n x1 x2 x3).symm.trans hf
      refine lv_iload_n hx hb dX12_isMaltsev_4 rfl (lv_at hl 3 rfl) ?_
      refine lv_aload_n hx hb dX12_isMaltsev_5 rfl (lv_at hl 0 rfl) ?_
      refine va_get (C := RX12) (T := TX12) (N := 22) hx hb hw bfX120 hown hK hP 0 (gm_0 E g a) rfl 0 (by decide) (hw _ bw755) (fun _ h9 => h9) rfl dX12_isMaltsev_6 ?_
      refine lv_icmp_ge (tgt := 74) hx hb dX12_isMaltsev_9 (by decide) (fun c1 => ?_) (fun c1 => ?_)
      · replace hf := (if_pos c1).symm.trans hf
        refine lv_iload_n hx hb dX12_isMaltsev_74 rfl (lv_at hl 2 rfl) ?_
        obtain ⟨k2, hf⟩ := ck_some hf
        exact xz_retS (fr := (fun r => r)) (fw := (fun r => wM E g a)) hx hb hr hlocks (Option.some.inj hf) (boB_bo k2) hP hS dX12_isMaltsev_75
      · replace hf := (if_neg c1).symm.trans hf
        refine lv_iconst (v := 0) hx hb dX12_isMaltsev_12 (by decide) ?_
        refine lv_istore (lv' := [(4, .int 0), (0, .ref (E.2.1 0)), (1, .int x1), (2, .int x2), (3, .int x3)]) hx hb dX12_isMaltsev_13 hl (by decide) rfl (fun ls hl => ?_)
        exact B15 (f_X12_isMaltsev_4 g a n) ih fu x1 x2 x3 0 _ _ _ hP hS (lv_sub hl [1, 2, 3, 4, 0] rfl) hf
  refine lv_iconst (v := 1) hx hb dX12_isMaltsev_0 (by decide) ?_
  refine lv_istore_n (lv' := [(2, .int 1), (0, .ref (E.2.1 0)), (1, .int v1)]) hx hb dX12_isMaltsev_1 rfl hl (by decide) rfl (fun ls hl => ?_)
  refine lv_iconst (v := 0) hx hb dX12_isMaltsev_2 (by decide) ?_
  refine lv_istore_n (lv' := [(3, .int 0), (2, .int 1), (0, .ref (E.2.1 0)), (1, .int v1)]) hx hb dX12_isMaltsev_3 rfl hl (by decide) rfl (fun ls hl => ?_)
  exact B4 fu v1 1 0 _ _ _ hP hS (lv_sub hl [2, 3, 1, 0] rfl) hf
def f_X12_has_27 (a : xA) (g : xG) (x1 : Int32) (x2 : Int32) (s0 : Int32) : Option (Int32 × xG) := (if ((upd g 8 s0) 8) ≤ 0 then ck (inB x1 6) ((if 2 ≤ x2 then (if x2 = 2 then (if (a 3 (x1 : Int32).toNatClampNeg) = 2 then Option.bind (f_X12_associates (upd g 8 s0) a x1) (fun u18 => (if u18 = 0 then some (0, (upd g 8 s0)) else some (1, (upd g 8 s0)))) else some (0, (upd g 8 s0))) else (if (a 3 (x1 : Int32).toNatClampNeg) = 3 then (if x2 = 3 then Option.bind (f_X12_isMajority (upd g 8 s0) a x1) (fun u14 => (if u14 = 0 then some (0, (upd g 8 s0)) else some (1, (upd g 8 s0)))) else Option.bind (f_X12_isMaltsev (upd g 8 s0) a x1) (fun u11 => (if u11 = 0 then some (0, (upd g 8 s0)) else some (1, (upd g 8 s0))))) else some (0, (upd g 8 s0)))) else (if x2 = 0 then Option.bind (f_X12_isIdempotent (upd g 8 s0) a x1 (a 3 (x1 : Int32).toNatClampNeg)) (fun u25 => ck (boB u25) (some (u25, (upd g 8 s0)))) else Option.bind (f_X12_isSymmetric (upd g 8 s0) a x1 (a 3 (x1 : Int32).toNatClampNeg)) (fun u22 => ck (boB u22) (some (u22, (upd g 8 s0))))))) else some (0, (upd g 8 s0)))
def f_X12_has (g : xG) (a : xA) (v1 : Int32) (v2 : Int32) : Option (Int32 × xG) := Option.bind (f_X12_isOperation g a v1) (fun u1 => (if u1 = 0 then f_X12_has_27 a g v1 v2 1 else (if (t_X12_in g a v2 0 4) = 0 then f_X12_has_27 a g v1 v2 2 else f_X12_has_27 a g v1 v2 0)))
set_option maxRecDepth 100000 in
set_option maxHeartbeats 40000000 in
theorem c_X12_has (l : Launch) (E : xE) (g : xG) (a : xA) (v1 : Int32) (v2 : Int32) {res : Int32 × xG} (hf : f_X12_has g a v1 v2 = some res) : xM l E yX12_has cX12_has 4 (some .boolean) 2 52 [.ref (E.2.1 0), .int v1, .int v2] (wM E g a) (xQi E res.1 (wM E res.2 a)) := by
  unfold f_X12_has at hf
  refine xM_of (by decide) (Nat.le_of_ble_eq_true rfl) ?_
  intro p e s m below meth c A hx hb hr hml hts hown hlocks hA hD hP hK hN hS ls hl
  have hw : ∀ w ∈ BW, w.before _ s = true := fun w h => hts w (List.mem_cons_of_mem _ h)
  have C0 : xCtx E p m c cX12_has 4 s _ RX12 A yX12_has cX12_has 4 (some .boolean) := ⟨hx, hb, hml, hown, hts, hA, hK, hN⟩
  have hl : lv_has ls 4 [(0, .ref (E.2.1 0)), (1, .int v1), (2, .int v2)] := hl
  have B27 : ∀ (g : xG) (x1 : Int32) (x2 : Int32) (s0 : Int32) (H : Heap) (locs : List Loc) (ls : Array Slot), va_P E.1 vwCl (wM E g a) H → va_S A s.heap H locs → lv_has ls 4 [(0, .ref (E.2.1 0)), (1, .int x1), (2, .int x2)] → f_X12_has_27 a g x1 x2 s0 = some res → W p l e ({ frames := 2, cells := 0, slots := 0, locals := 52 }) s m ([.ref (E.2.1 0), .int v1, .int v2] : List Value).toArray below meth c H locs 0 0 (MQ below ((xQi E res.1 (wM E res.2 a)) A) ([.ref (E.2.1 0), .int v1, .int v2] : List Value).toArray s 0 0 A) (F0 m 27 ls [.int s0, .ref (E.2.1 0)]) := by
    intro g x1 x2 s0 H locs ls hP hS hl hf
    unfold f_X12_has_27 at hf
    refine va_put (v := .int s0) (ty := .int) (C := RX12) (T := TX12) (N := 22) hx hb hw bfX120 tyX12 tyX12_ok nmX12 hown hK hP (wM_D hD) hS 0 (gm_0 E g a) rfl 21 (by decide) (hw _ bw771) (fun _ h9 => h9) rfl (by decide +kernel) rfl rfl (Nat.le_of_ble_eq_true rfl) dX12_has_27 (fun H locs hP _ hS => ?_)
    have hP := xP_eq (sm_g8 E g a s0) hP
    refine lv_aload_n hx hb dX12_has_30 rfl (lv_at hl 0 rfl) ?_
    refine va_get (C := RX12) (T := TX12) (N := 22) hx hb hw bfX120 hown hK hP 0 (gm_0 E (upd g 8 s0) a) rfl 21 (by decide) (hw _ bw771) (fun _ h9 => h9) rfl dX12_has_31 ?_
    refine lv_if_le (tgt := 39) hx hb dX12_has_34 (by decide) (fun c5 => ?_) (fun c5 => ?_)
    · replace hf := (if_pos c5).symm.trans hf
      refine lv_aload_n hx hb dX12_has_39 rfl (lv_at hl 0 rfl) ?_
      refine va_get (C := RX12) (T := TX12) (N := 22) hx hb hw bfX120 hown hK hP 0 (gm_0 E (upd g 8 s0) a) rfl 5 (by decide) (hw _ bw758) (fun _ h9 => h9) rfl dX12_has_40 ?_
      refine lv_iload_n hx hb dX12_has_43 rfl (lv_at hl 1 rfl) ?_
      obtain ⟨k6, hf⟩ := ck_some hf
      refine va_iald hx hb hK hP 3 0 (gm_3 E (upd g 8 s0) a) rfl (inB_in k6) dX12_has_44 ?_
      refine lv_istore_n (lv' := [(3, .int (a 3 (x1 : Int32).toNatClampNeg)), (0, .ref (E.2.1 0)), (1, .int x1), (2, .int x2)]) hx hb dX12_has_45 rfl hl (by decide) rfl (fun ls hl => ?_)
      refine lv_iload_n hx hb dX12_has_46 rfl (lv_at hl 3 rfl) ?_
      refine lv_iconst (v := 2) hx hb dX12_has_47 (by decide) ?_
      refine lv_icmp_ge (tgt := 71) hx hb dX12_has_48 (by decide) (fun c7 => ?_) (fun c7 => ?_)
      · replace hf := (if_pos c7).symm.trans hf
        refine lv_iload_n hx hb dX12_has_71 rfl (lv_at hl 3 rfl) ?_
        refine lv_iconst (v := 2) hx hb dX12_has_72 (by decide) ?_
        refine lv_icmp_ne (tgt := 95) hx hb dX12_has_73 (by decide) (fun c8 => ?_) (fun c8 => ?_)
        · replace hf := (if_neg c8).symm.trans hf
          refine lv_iload_n hx hb dX12_has_95 rfl (lv_at hl 0 rfl) ?_
          refine lv_iconst (v := 3) hx hb dX12_has_96 (by decide) ?_
          refine lv_icmp_ne (tgt := 128) hx hb dX12_has_97 (by decide) (fun c9 => ?_) (fun c9 => ?_)
          · replace hf := (if_neg c9).symm.trans hf
            refine lv_iconst (v := 0) hx hb dX12_has_128 (by decide) ?_
            exact xz_retS (fr := (fun r => r.1)) (fw := (fun r => wM E r.2 a)) hx hb hr hlocks (Option.some.inj hf) nz0 hP hS dX12_has_129
          · replace hf := (if_pos c9).symm.trans hf
            refine lv_iload_n hx hb dX12_has_100 rfl (lv_at hl 3 rfl) ?_
            refine lv_iconst (v := 3) hx hb dX12_has_101 (by decide) ?_
            refine lv_icmp_ne (tgt := 116) hx hb dX12_has_102 (by decide) (fun c10 => ?_) (fun c10 => ?_)
            · replace hf := (if_neg c10).symm.trans hf
              refine lv_aload_n hx hb dX12_has_116 rfl (lv_at hl 1 rfl) ?_
              refine lv_iload_n hx hb dX12_has_117 rfl (lv_at hl 2 rfl) ?_
              obtain ⟨u11, e12, hf⟩ := bd_some hf
              refine xci (xRunV (rest := []) (As := [.int x1]) (C := RX12) (k := 1) C0 (c_X12_isMaltsev l E (upd g 8 s0) a x1 e12) bw856 bw869 bw778 bw870 bw871 hd_X12_isMaltsev ⟨Nat.le_of_ble_eq_true rfl, Nat.le_of_ble_eq_true rfl⟩ hP (wM_D hD) hS (va_recv hK hP (ci := 12) rfl (gm_0 E (upd g 8 s0) a)) rfl hl.1 rfl (Nat.le_of_ble_eq_true rfl) dX12_has_118 ⟨Nat.zero_le _, Nat.zero_le _⟩) hS (fun H locs hP hS => ?_)
              refine lv_if_eq (tgt := 128) hx hb dX12_has_121 (by decide) (fun c13 => ?_) (fun c13 => ?_)
              · replace hf := (if_pos c13).symm.trans hf
                refine lv_iconst (v := 0) hx hb dX12_has_128 (by decide) ?_
                exact xz_retS (fr := (fun r => r.1)) (fw := (fun r => wM E r.2 a)) hx hb hr hlocks (Option.some.inj hf) nz0 hP hS dX12_has_129
              · replace hf := (if_neg c13).symm.trans hf
                refine lv_iconst (v := 1) hx hb dX12_has_124 (by decide) ?_
                refine lv_goto (tgt := 129) hx hb dX12_has_125 (by decide) ?_
                exact xz_retS (fr := (fun r => r.1)) (fw := (fun r => wM E r.2 a)) hx hb hr hlocks (Option.some.inj hf) nz1 hP hS dX12_has_129
            · replace hf := (if_pos c10).symm.trans hf
              refine lv_aload_n hx hb dX12_has_105 rfl (lv_at hl 1 rfl) ?_
              refine lv_iload_n hx hb dX12_has_106 rfl (lv_at hl 2 rfl) ?_
              obtain ⟨u14, e15, hf⟩ := bd_some hf
              refine xci (xRunV (rest := []) (As := [.int x1]) (C := RX12) (k := 1) C0 (c_X12_isMajority l E (upd g 8 s0) a x1 e15) bw855 bw866 bw778 bw867 bw868 hd_X12_isMajority ⟨Nat.le_of_ble_eq_true rfl, Nat.le_of_ble_eq_true rfl⟩ hP (wM_D hD) hS (va_recv hK hP (ci := 12) rfl (gm_0 E (upd g 8 s0) a)) rfl hl.1 rfl (Nat.le_of_ble_eq_true rfl) dX12_has_107 ⟨Nat.zero_le _, Nat.zero_le _⟩) hS (fun H locs hP hS => ?_)
              refine lv_if_eq (tgt := 128) hx hb dX12_has_110 (by decide) (fun c16 => ?_) (fun c16 => ?_)
              · replace hf := (if_pos c16).symm.trans hf
                refine lv_iconst (v := 0) hx hb dX12_has_128 (by decide) ?_
                exact xz_retS (fr := (fun r => r.1)) (fw := (fun r => wM E r.2 a)) hx hb hr hlocks (Option.some.inj hf) nz0 hP hS dX12_has_129
              · replace hf := (if_neg c16).symm.trans hf
                refine lv_goto (tgt := 124) hx hb dX12_has_113 (by decide) ?_
                refine lv_iconst (v := 1) hx hb dX12_has_124 (by decide) ?_
                refine lv_goto (tgt := 129) hx hb dX12_has_125 (by decide) ?_
                exact xz_retS (fr := (fun r => r.1)) (fw := (fun r => wM E r.2 a)) hx hb hr hlocks (Option.some.inj hf) nz1 hP hS dX12_has_129
        · replace hf := (if_pos c8).symm.trans hf
          refine lv_iload_n hx hb dX12_has_76 rfl (lv_at hl 0 rfl) ?_
          refine lv_iconst (v := 2) hx hb dX12_has_77 (by decide) ?_
          refine lv_icmp_ne (tgt := 93) hx hb dX12_has_78 (by decide) (fun c17 => ?_) (fun c17 => ?_)
          · replace hf := (if_neg c17).symm.trans hf
            refine lv_iconst (v := 0) hx hb dX12_has_93 (by decide) ?_
            exact xz_retS (fr := (fun r => r.1)) (fw := (fun r => wM E r.2 a)) hx hb hr hlocks (Option.some.inj hf) nz0 hP hS dX12_has_94
          · replace hf := (if_pos c17).symm.trans hf
            refine lv_aload_n hx hb dX12_has_81 rfl (lv_at hl 1 rfl) ?_
            refine lv_iload_n hx hb dX12_has_82 rfl (lv_at hl 2 rfl) ?_
            obtain ⟨u18, e19, hf⟩ := bd_some hf
            refine xci (xRunV (rest := []) (As := [.int x1]) (C := RX12) (k := 1) C0 (c_X12_associates l E (upd g 8 s0) a x1 e19) bw854 bw863 bw778 bw864 bw865 hd_X12_associates ⟨Nat.le_of_ble_eq_true rfl, Nat.le_of_ble_eq_true rfl⟩ hP (wM_D hD) hS (va_recv hK hP (ci := 12) rfl (gm_0 E (upd g 8 s0) a)) rfl hl.1 rfl (Nat.le_of_ble_eq_true rfl) dX12_has_83 ⟨Nat.zero_le _, Nat.zero_le _⟩) hS (fun H locs hP hS => ?_)
            refine lv_if_eq (tgt := 93) hx hb dX12_has_86 (by decide) (fun c20 => ?_) (fun c20 => ?_)
            · replace hf := (if_pos c20).symm.trans hf
              refine lv_iconst (v := 0) hx hb dX12_has_93 (by decide) ?_
              exact xz_retS (fr := (fun r => r.1)) (fw := (fun r => wM E r.2 a)) hx hb hr hlocks (Option.some.inj hf) nz0 hP hS dX12_has_94
            · replace hf := (if_neg c20).symm.trans hf
              refine lv_iconst (v := 1) hx hb dX12_has_89 (by decide) ?_
              refine lv_goto (tgt := 94) hx hb dX12_has_90 (by decide) ?_
              exact xz_retS (fr := (fun r => r.1)) (fw := (fun r => wM E r.2 a)) hx hb hr hlocks (Option.some.inj hf) nz1 hP hS dX12_has_94
      · replace hf := (if_neg c7).symm.trans hf
        refine lv_iload_n hx hb dX12_has_51 rfl (lv_at hl 3 rfl) ?_
        refine lv_if_ne (tgt := 64) hx hb dX12_has_52 (by decide) (fun c21 => ?_) (fun c21 => ?_)
        · replace hf := (if_neg c21).symm.trans hf
          refine lv_aload_n hx hb dX12_has_64 rfl (lv_at hl 1 rfl) ?_
          refine lv_iload_n hx hb dX12_has_65 rfl (lv_at hl 2 rfl) ?_
          refine lv_iload_n hx hb dX12_has_66 rfl (lv_at hl 0 rfl) ?_
          obtain ⟨u22, e23, hf⟩ := bd_some hf
          refine xci (xRunV (rest := []) (As := [.int x1, .int (a 3 (x1 : Int32).toNatClampNeg)]) (C := RX12) (k := 2) C0 (c_X12_isSymmetric l E (upd g 8 s0) a x1 (a 3 (x1 : Int32).toNatClampNeg) e23) bw853 bw860 bw778 bw861 bw862 hd_X12_isSymmetric ⟨Nat.le_of_ble_eq_true rfl, Nat.le_of_ble_eq_true rfl⟩ hP (wM_D hD) hS (va_recv hK hP (ci := 12) rfl (gm_0 E (upd g 8 s0) a)) rfl hl.1 rfl (Nat.le_of_ble_eq_true rfl) dX12_has_67 ⟨Nat.zero_le _, Nat.zero_le _⟩) hS (fun H locs hP hS => ?_)
          obtain ⟨k24, hf⟩ := ck_some hf
          exact xz_retS (fr := (fun r => r.1)) (fw := (fun r => wM E r.2 a)) hx hb hr hlocks (Option.some.inj hf) (boB_bo k24) hP hS dX12_has_70
        · replace hf := (if_pos c21).symm.trans hf
          refine lv_aload_n hx hb dX12_has_55 rfl (lv_at hl 1 rfl) ?_
          refine lv_iload_n hx hb dX12_has_56 rfl (lv_at hl 2 rfl) ?_
          refine lv_iload_n hx hb dX12_has_57 rfl (lv_at hl 0 rfl) ?_
          obtain ⟨u25, e26, hf⟩ := bd_some hf
          refine xci (xRunV (rest := []) (As := [.int x1, .int (a 3 (x1 : Int32).toNatClampNeg)]) (C := RX12) (k := 2) C0 (c_X12_isIdempotent l E (upd g 8 s0) a x1 (a 3 (x1 : Int32).toNatClampNeg) e26) bw849 bw857 bw778 bw858 bw859 hd_X12_isIdempotent ⟨Nat.le_of_ble_eq_true rfl, Nat.le_of_ble_eq_true rfl⟩ hP (wM_D hD) hS (va_recv hK hP (ci := 12) rfl (gm_0 E (upd g 8 s0) a)) rfl hl.1 rfl (Nat.le_of_ble_eq_true rfl) dX12_has_58 ⟨Nat.zero_le _, Nat.zero_le _⟩) hS (fun H locs hP hS => ?_)
          refine lv_goto (tgt := 70) hx hb dX12_has_61 (by decide) ?_
          obtain ⟨k27, hf⟩ := ck_some hf
          exact xz_retS (fr := (fun r => r.1)) (fw := (fun r => wM E r.2 a)) hx hb hr hlocks (Option.some.inj hf) (boB_bo k27) hP hS dX12_has_70
    · replace hf := (if_neg c5).symm.trans hf
      refine lv_iconst (v := 0) hx hb dX12_has_37 (by decide) ?_
      exact xz_retS (fr := (fun r => r.1)) (fw := (fun r => wM E r.2 a)) hx hb hr hlocks (Option.some.inj hf) nz0 hP hS dX12_has_38
  refine lv_aload_n hx hb dX12_has_0 rfl (lv_at hl 0 rfl) ?_
  refine lv_aload_n hx hb dX12_has_1 rfl (lv_at hl 0 rfl) ?_
  refine lv_iload_n hx hb dX12_has_2 rfl (lv_at hl 1 rfl) ?_
  obtain ⟨u1, e2, hf⟩ := bd_some hf
  refine xci (xRunV (rest := [.ref (E.2.1 0)]) (As := [.int v1]) (C := RX12) (k := 1) C0 (c_X12_isOperation l E g a v1 e2) bw812 bw814 bw778 bw815 bw816 hd_X12_isOperation ⟨Nat.le_of_ble_eq_true rfl, Nat.le_of_ble_eq_true rfl⟩ hP (wM_D hD) hS (va_recv hK hP (ci := 12) rfl (gm_0 E g a)) rfl hl.1 rfl (Nat.le_of_ble_eq_true rfl) dX12_has_3 ⟨Nat.zero_le _, Nat.zero_le _⟩) hS (fun H locs hP hS => ?_)
  refine lv_if_ne (tgt := 13) hx hb dX12_has_6 (by decide) (fun c3 => ?_) (fun c3 => ?_)
  · replace hf := (if_neg c3).symm.trans hf
    refine lv_iload_n hx hb dX12_has_13 rfl (lv_at hl 2 rfl) ?_
    refine lv_iconst (v := 0) hx hb dX12_has_14 (by decide) ?_
    refine lv_iconst (v := 4) hx hb dX12_has_15 (by decide) ?_
    refine xci (xRunS (rest := [.ref (E.2.1 0)]) (As := [.int v2, .int 0, .int 4]) (k := 3) C0 (c_X12_in l E g a v2 0 4) bw772 bw785 bw778 bw786 hd_X12_in ⟨Nat.le_of_ble_eq_true rfl, Nat.le_of_ble_eq_true rfl⟩ hP (wM_D hD) hS rfl hl.1 rfl (Nat.le_of_ble_eq_true rfl) dX12_has_16 ⟨Nat.zero_le _, Nat.zero_le _⟩) hS (fun H locs hP hS => ?_)
    refine lv_if_ne (tgt := 26) hx hb dX12_has_19 (by decide) (fun c4 => ?_) (fun c4 => ?_)
    · replace hf := (if_neg c4).symm.trans hf
      refine lv_iconst (v := 0) hx hb dX12_has_26 (by decide) ?_
      exact B27 g v1 v2 0 _ _ _ hP hS (lv_sub hl [0, 1, 2] rfl) hf
    · replace hf := (if_pos c4).symm.trans hf
      refine lv_iconst (v := 2) hx hb dX12_has_22 (by decide) ?_
      refine lv_goto (tgt := 27) hx hb dX12_has_23 (by decide) ?_
      exact B27 g v1 v2 2 _ _ _ hP hS (lv_sub hl [0, 1, 2] rfl) hf
  · replace hf := (if_pos c3).symm.trans hf
    refine lv_iconst (v := 1) hx hb dX12_has_9 (by decide) ?_
    refine lv_goto (tgt := 27) hx hb dX12_has_10 (by decide) ?_
    exact B27 g v1 v2 1 _ _ _ hP hS (lv_sub hl [0, 1, 2] rfl) hf
def f_X12_closes_19 (g : xG) : Nat → xA → Int32 → Int32 → Int32 → Int32 → Option (Int32 × xA)
  | 0, _, _, _, _, _ => none
  | n + 1, a, x1, x2, x4, x5 => (if (x5 &&& (x4 ^^^ (-1))) = 0 then some (x4, a) else ck (inB x1 6) (Option.bind (f_X12_come g a x1 (a 3 (x1 : Int32).toNatClampNeg) x2 (x4 ||| x5)) (fun u6 => f_X12_closes_19 g n u6.2 x1 x2 (x4 ||| x5) u6.1)))
theorem e_X12_closes_19 (g : xG) (n : Nat) (a : xA) (x1 : Int32) (x2 : Int32) (x4 : Int32) (x5 : Int32) : f_X12_closes_19 g (n + 1) a x1 x2 x4 x5 = (if (x5 &&& (x4 ^^^ (-1))) = 0 then some (x4, a) else ck (inB x1 6) (Option.bind (f_X12_come g a x1 (a 3 (x1 : Int32).toNatClampNeg) x2 (x4 ||| x5)) (fun u6 => f_X12_closes_19 g n u6.2 x1 x2 (x4 ||| x5) u6.1))) := rfl
def f_X12_closes (g : xG) (a : xA) (v1 : Int32) (v2 : Int32) (v3 : Int32) : Option (Int32 × xA) := ck (inB v1 6) (Option.bind (f_X12_come g a v1 (a 3 (v1 : Int32).toNatClampNeg) v2 v3) (fun u2 => f_X12_closes_19 g fu u2.2 v1 v2 v3 u2.1))
set_option maxRecDepth 100000 in
set_option maxHeartbeats 40000000 in
theorem c_X12_closes (l : Launch) (E : xE) (g : xG) (a : xA) (v1 : Int32) (v2 : Int32) (v3 : Int32) {res : Int32 × xA} (hf : f_X12_closes g a v1 v2 v3 = some res) : xM l E yX12_closes cX12_closes 6 (some .int) 4 100 [.ref (E.2.1 0), .int v1, .int v2, .int v3] (wM E g a) (xQi E res.1 (wM E g res.2)) := by
  unfold f_X12_closes at hf
  refine xM_of (by decide) (Nat.le_of_ble_eq_true rfl) ?_
  intro p e s m below meth c A hx hb hr hml hts hown hlocks hA hD hP hK hN hS ls hl
  have hw : ∀ w ∈ BW, w.before _ s = true := fun w h => hts w (List.mem_cons_of_mem _ h)
  have C0 : xCtx E p m c cX12_closes 6 s _ RX12 A yX12_closes cX12_closes 6 (some .int) := ⟨hx, hb, hml, hown, hts, hA, hK, hN⟩
  have hl : lv_has ls 6 [(0, .ref (E.2.1 0)), (1, .int v1), (2, .int v2), (3, .int v3)] := hl
  have B19 : ∀ (n : Nat) (a : xA) (x1 : Int32) (x2 : Int32) (x4 : Int32) (x5 : Int32) (H : Heap) (locs : List Loc) (ls : Array Slot), va_P E.1 vwCl (wM E g a) H → va_S A s.heap H locs → lv_has ls 6 [(0, .ref (E.2.1 0)), (1, .int x1), (2, .int x2), (4, .int x4), (5, .int x5)] → f_X12_closes_19 g n a x1 x2 x4 x5 = some res → W p l e ({ frames := 4, cells := 0, slots := 0, locals := 100 }) s m ([.ref (E.2.1 0), .int v1, .int v2, .int v3] : List Value).toArray below meth c H locs 0 0 (MQ below ((xQi E res.1 (wM E g res.2)) A) ([.ref (E.2.1 0), .int v1, .int v2, .int v3] : List Value).toArray s 0 0 A) (F0 m 19 ls []) := by
    intro n
    induction n with
    | zero => intro a x1 x2 x4 x5 H locs ls hP hS hl hf; exact absurd (show (none : Option (Int32 × xA)) = some res from hf) (by intro h; cases h)
    | succ n ih =>
      intro a x1 x2 x4 x5 H locs ls hP hS hl hf
      replace hf := (e_X12_closes_19 g n a x1 x2 x4 x5).symm.trans hf
      refine lv_iload hx hb dX12_closes_19 (lv_at hl 4 rfl) ?_
      refine lv_iload hx hb dX12_closes_21 (lv_at hl 3 rfl) ?_
      refine lv_iconst (v := (-1)) hx hb dX12_closes_23 (by decide) ?_
      refine lv_ixor hx hb dX12_closes_24 ?_
      refine lv_iand hx hb dX12_closes_25 ?_
      refine lv_if_eq (tgt := 55) hx hb dX12_closes_26 (by decide) (fun c4 => ?_) (fun c4 => ?_)
      · replace hf := (if_pos c4).symm.trans hf
        refine lv_iload hx hb dX12_closes_55 (lv_at hl 3 rfl) ?_
        exact xi_retS (fr := (fun r => r.1)) (fw := (fun r => wM E g r.2)) hx hb hr hlocks (Option.some.inj hf) hP hS dX12_closes_57
      · replace hf := (if_neg c4).symm.trans hf
        refine lv_iload hx hb dX12_closes_29 (lv_at hl 3 rfl) ?_
        refine lv_iload hx hb dX12_closes_31 (lv_at hl 4 rfl) ?_
        refine lv_ior hx hb dX12_closes_33 ?_
        refine lv_istore (lv' := [(4, .int (x4 ||| x5)), (0, .ref (E.2.1 0)), (1, .int x1), (2, .int x2), (5, .int x5)]) hx hb dX12_closes_34 hl (by decide) rfl (fun ls hl => ?_)
        refine lv_aload_n hx hb dX12_closes_36 rfl (lv_at hl 1 rfl) ?_
        refine lv_iload_n hx hb dX12_closes_37 rfl (lv_at hl 2 rfl) ?_
        refine lv_aload_n hx hb dX12_closes_38 rfl (lv_at hl 1 rfl) ?_
        refine va_get (C := RX12) (T := TX12) (N := 22) hx hb hw bfX120 hown hK hP 0 (gm_0 E g a) rfl 5 (by decide) (hw _ bw758) (fun _ h9 => h9) rfl dX12_closes_39 ?_
        refine lv_iload_n hx hb dX12_closes_42 rfl (lv_at hl 2 rfl) ?_
        obtain ⟨k5, hf⟩ := ck_some hf
        refine va_iald hx hb hK hP 3 0 (gm_3 E g a) rfl (inB_in k5) dX12_closes_43 ?_
        refine lv_iload_n hx hb dX12_closes_44 rfl (lv_at hl 3 rfl) ?_
        refine lv_iload hx hb dX12_closes_45 (lv_at hl 0 rfl) ?_
        obtain ⟨u6, e7, hf⟩ := bd_some hf
        refine xci (xRunV (rest := []) (As := [.int x1, .int (a 3 (x1 : Int32).toNatClampNeg), .int x2, .int (x4 ||| x5)]) (C := RX12) (k := 4) C0 (c_X12_come l E g a x1 (a 3 (x1 : Int32).toNatClampNeg) x2 (x4 ||| x5) e7) bw827 bw834 bw778 bw835 bw836 hd_X12_come ⟨Nat.le_of_ble_eq_true rfl, Nat.le_of_ble_eq_true rfl⟩ hP (wM_D hD) hS (va_recv hK hP (ci := 12) rfl (gm_0 E g a)) rfl hl.1 rfl (Nat.le_of_ble_eq_true rfl) dX12_closes_47 ⟨Nat.zero_le _, Nat.zero_le _⟩) hS (fun H locs hP hS => ?_)
        refine lv_istore (lv' := [(5, .int u6.1), (4, .int (x4 ||| x5)), (0, .ref (E.2.1 0)), (1, .int x1), (2, .int x2)]) hx hb dX12_closes_50 hl (by decide) rfl (fun ls hl => ?_)
        refine lv_goto (tgt := 19) hx hb dX12_closes_52 (by decide) ?_
        exact ih u6.2 x1 x2 (x4 ||| x5) u6.1 _ _ _ hP hS (lv_sub hl [2, 3, 4, 1, 0] rfl) hf
  refine lv_iload_n hx hb dX12_closes_0 rfl (lv_at hl 3 rfl) ?_
  refine lv_istore (lv' := [(4, .int v3), (0, .ref (E.2.1 0)), (1, .int v1), (2, .int v2), (3, .int v3)]) hx hb dX12_closes_1 hl (by decide) rfl (fun ls hl => ?_)
  refine lv_aload_n hx hb dX12_closes_3 rfl (lv_at hl 1 rfl) ?_
  refine lv_iload_n hx hb dX12_closes_4 rfl (lv_at hl 2 rfl) ?_
  refine lv_aload_n hx hb dX12_closes_5 rfl (lv_at hl 1 rfl) ?_
  refine va_get (C := RX12) (T := TX12) (N := 22) hx hb hw bfX120 hown hK hP 0 (gm_0 E g a) rfl 5 (by decide) (hw _ bw758) (fun _ h9 => h9) rfl dX12_closes_6 ?_
  refine lv_iload_n hx hb dX12_closes_9 rfl (lv_at hl 2 rfl) ?_
  obtain ⟨k1, hf⟩ := ck_some hf
  refine va_iald hx hb hK hP 3 0 (gm_3 E g a) rfl (inB_in k1) dX12_closes_10 ?_
  refine lv_iload_n hx hb dX12_closes_11 rfl (lv_at hl 3 rfl) ?_
  refine lv_iload hx hb dX12_closes_12 (lv_at hl 0 rfl) ?_
  obtain ⟨u2, e3, hf⟩ := bd_some hf
  refine xci (xRunV (rest := []) (As := [.int v1, .int (a 3 (v1 : Int32).toNatClampNeg), .int v2, .int v3]) (C := RX12) (k := 4) C0 (c_X12_come l E g a v1 (a 3 (v1 : Int32).toNatClampNeg) v2 v3 e3) bw827 bw834 bw778 bw835 bw836 hd_X12_come ⟨Nat.le_of_ble_eq_true rfl, Nat.le_of_ble_eq_true rfl⟩ hP (wM_D hD) hS (va_recv hK hP (ci := 12) rfl (gm_0 E g a)) rfl hl.1 rfl (Nat.le_of_ble_eq_true rfl) dX12_closes_14 ⟨Nat.zero_le _, Nat.zero_le _⟩) hS (fun H locs hP hS => ?_)
  refine lv_istore (lv' := [(5, .int u2.1), (4, .int v3), (0, .ref (E.2.1 0)), (1, .int v1), (2, .int v2), (3, .int v3)]) hx hb dX12_closes_17 hl (by decide) rfl (fun ls hl => ?_)
  exact B19 fu u2.2 v1 v2 v3 u2.1 _ _ _ hP hS (lv_sub hl [2, 3, 4, 1, 0] rfl) hf
