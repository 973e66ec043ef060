/-! The law's methods that call what catches. -/
def f_L_surrounded_4 : Nat → xG → xA → Int32 → Int32 → Int32 → Option (Int32 × xG × xA)
  | 0, _, _, _, _, _ => none
  | n + 1, g, a, x1, x2, x3 => ck (inB x3 4) ((if x1 ≤ x3 then ck (boB x2) (some (x2, g, a)) else (if 3 ≤ x3 then ck (boB x2) (some (x2, g, a)) else (if x2 = 0 then ck (boB x2) (some (x2, g, a)) else Option.bind (rgt (f_X11_ofRelation g a x3 1)) (fun u8 => Option.bind (f_L_surrounds g a x3) (fun u10 => (if u10.1 = (-9) then f_L_surrounded_4 n u10.2.1 u10.2.2 x1 1 (x3 + 1) else (if (u10.1 &&& u8) = u8 then (if u8 = 0 then (if u10.1 = 0 then f_L_surrounded_4 n u10.2.1 u10.2.2 x1 1 (x3 + 1) else f_L_surrounded_4 n u10.2.1 u10.2.2 x1 0 (x3 + 1)) else f_L_surrounded_4 n u10.2.1 u10.2.2 x1 1 (x3 + 1)) else f_L_surrounded_4 n u10.2.1 u10.2.2 x1 0 (x3 + 1)))))))))
theorem e_L_surrounded_4 (n : Nat) (g : xG) (a : xA) (x1 : Int32) (x2 : Int32) (x3 : Int32) : f_L_surrounded_4 (n + 1) g a x1 x2 x3 = ck (inB x3 4) ((if x1 ≤ x3 then ck (boB x2) (some (x2, g, a)) else (if 3 ≤ x3 then ck (boB x2) (some (x2, g, a)) else (if x2 = 0 then ck (boB x2) (some (x2, g, a)) else Option.bind (rgt (f_X11_ofRelation g a x3 1)) (fun u8 => Option.bind (f_L_surrounds g a x3) (fun u10 => (if u10.1 = (-9) then f_L_surrounded_4 n u10.2.1 u10.2.2 x1 1 (x3 + 1) else (if (u10.1 &&& u8) = u8 then (if u8 = 0 then (if u10.1 = 0 then f_L_surrounded_4 n u10.2.1 u10.2.2 x1 1 (x3 + 1) else f_L_surrounded_4 n u10.2.1 u10.2.2 x1 0 (x3 + 1)) else f_L_surrounded_4 n u10.2.1 u10.2.2 x1 1 (x3 + 1)) else f_L_surrounded_4 n u10.2.1 u10.2.2 x1 0 (x3 + 1))))))))) := rfl
def f_L_surrounded (g : xG) (a : xA) (v1 : Int32) : Option (Int32 × xG × xA) := f_L_surrounded_4 fu g a v1 1 0
set_option maxRecDepth 100000 in
set_option maxHeartbeats 40000000 in
theorem c_L_surrounded (l : Launch) (hstk : l.stackTraces = false) (E : xE) (g : xG) (a : xA) (v1 : Int32) {res : Int32 × xG × xA} (hf : f_L_surrounded g a v1 = some res) : xV l E yL_surrounded (.code yL_surrounded cL_surrounded 6 (some .boolean)) 39 898 4 24 [.ref (E.2.1 0), .int v1] (wX E g a) res.1 (wX E res.2.1 res.2.2) := by
  refine xV_of hstk (by decide) rfl (Nat.le_of_ble_eq_true rfl) ?_
  intro p e s m below meth c A C0 hr hlocks hD hP hS ls hl
  obtain ⟨hx, hb, hml, hown, hw, hA, hK, hN, hT, hst, hz, hnc, -⟩ := id C0
  have hl : lv_has ls 6 [(0, .ref (E.2.1 0)), (1, .int v1)] := hl
  unfold f_L_surrounded at hf
  have B4 : ∀ (n : Nat) (g : xG) (a : xA) (x1 : Int32) (x2 : Int32) (x3 : Int32) (H : Heap) (locs : List Loc) (ls : Array Slot), va_P E.1 vwCl (wX E g a) H → va_S A s.heap H locs → lv_has ls 6 [(0, .ref (E.2.1 0)), (1, .int x1), (2, .int x2), (3, .int x3)] → f_L_surrounded_4 n g a x1 x2 x3 = some res → W p l e ({ frames := 39, cells := 4, slots := 24, locals := 898 }) s m ([.ref (E.2.1 0), .int v1] : List Value).toArray below meth c H locs (0 + 1 * (x3 : Int32).toNatClampNeg) (0 + 6 * (x3 : Int32).toNatClampNeg) (MQ below (xQi E res.1 (wX E res.2.1 res.2.2) A) ([.ref (E.2.1 0), .int v1] : List Value).toArray s 4 24 A) (F0 m 4 ls []) := by
    intro n
    induction n with
    | zero => intro g a x1 x2 x3 H locs ls hP hS hl hf; exact absurd (show (none : Option (Int32 × xG × xA)) = some res from hf) (by intro h; cases h)
    | succ n ih =>
      intro g a x1 x2 x3 H locs ls hP hS hl hf
      replace hf := (e_L_surrounded_4 n g a x1 x2 x3).symm.trans hf
      obtain ⟨k1, hf⟩ := ck_some hf
      obtain ⟨hq1, hq2⟩ := nc_f (by decide) k1
      refine lv_iload_n hx hb dL_surrounded_4 rfl (lv_at hl 3 rfl) ?_
      refine lv_iload_n hx hb dL_surrounded_5 rfl (lv_at hl 1 rfl) ?_
      refine lv_icmp_ge (tgt := 72) hx hb dL_surrounded_6 (by decide) (fun c2 => ?_) (fun c2 => ?_)
      · replace hf := (if_pos c2).symm.trans hf
        refine lv_iload_n hx hb dL_surrounded_72 rfl (lv_at hl 2 rfl) ?_
        obtain ⟨k3, hf⟩ := ck_some hf
        obtain rfl := Option.some.inj hf
        exact gz_ret hx hb hr hlocks hP hS rfl (boB_bo k3) (by omega) (by omega) dL_surrounded_73
      · replace hf := (if_neg c2).symm.trans hf
        refine lv_iload_n hx hb dL_surrounded_9 rfl (lv_at hl 3 rfl) ?_
        refine lv_iconst (v := 3) hx hb dL_surrounded_10 (by decide) ?_
        refine lv_icmp_ge (tgt := 72) hx hb dL_surrounded_11 (by decide) (fun c4 => ?_) (fun c4 => ?_)
        · replace hf := (if_pos c4).symm.trans hf
          refine lv_iload_n hx hb dL_surrounded_72 rfl (lv_at hl 2 rfl) ?_
          obtain ⟨k5, hf⟩ := ck_some hf
          obtain rfl := Option.some.inj hf
          exact gz_ret hx hb hr hlocks hP hS rfl (boB_bo k5) (by omega) (by omega) dL_surrounded_73
        · replace hf := (if_neg c4).symm.trans hf
          refine lv_iload_n hx hb dL_surrounded_14 rfl (lv_at hl 2 rfl) ?_
          refine lv_if_eq (tgt := 72) hx hb dL_surrounded_15 (by decide) (fun c6 => ?_) (fun c6 => ?_)
          · replace hf := (if_pos c6).symm.trans hf
            refine lv_iload_n hx hb dL_surrounded_72 rfl (lv_at hl 2 rfl) ?_
            obtain ⟨k7, hf⟩ := ck_some hf
            obtain rfl := Option.some.inj hf
            exact gz_ret hx hb hr hlocks hP hS rfl (boB_bo k7) (by omega) (by omega) dL_surrounded_73
          · replace hf := (if_neg c6).symm.trans hf
            refine lv_aload_n hx hb dL_surrounded_18 rfl (lv_at hl 0 rfl) ?_
            refine lv_iload_n hx hb dL_surrounded_19 rfl (lv_at hl 3 rfl) ?_
            refine lv_iconst (v := 1) hx hb dL_surrounded_20 (by decide) ?_
            obtain ⟨u8, e9, hf⟩ := bd_some hf
            refine xci (gRunV (rest := []) (As := [.int x3, .int 1]) (C := RX11) (k := 2) C0 (cr_X11_ofRelation l E g a x3 1 (rgt_some e9)) bw619 bw780 bw13 bw781 bw782 hd_X11_ofRelation ⟨Nat.le_of_ble_eq_true rfl, Nat.le_of_ble_eq_true rfl⟩ hP (wX_D hD) hS (va_recv hK hP (ci := 11) rfl (gx_0 E g a)) rfl hl.1 rfl (Nat.le_of_ble_eq_true rfl) dL_surrounded_21 ⟨show (0 + 1 * (x3 : Int32).toNatClampNeg) ≤ 4 by omega, show (0 + 6 * (x3 : Int32).toNatClampNeg) ≤ 24 by omega⟩) hS (fun H locs hP hS => ?_)
            refine lv_istore (lv' := [(4, .int u8), (0, .ref (E.2.1 0)), (1, .int x1), (2, .int x2), (3, .int x3)]) hx hb dL_surrounded_24 hl (by decide) rfl (fun ls hl => ?_)
            refine lv_aload_n hx hb dL_surrounded_26 rfl (lv_at hl 1 rfl) ?_
            refine lv_iload_n hx hb dL_surrounded_27 rfl (lv_at hl 4 rfl) ?_
            obtain ⟨u10, e11, hf⟩ := bd_some hf
            refine gci (gRunW (rest := []) (As := [.ref (E.2.1 0), .int x3]) (k := 2) C0 (c_L_surrounds l hstk E g a x3 e11) bw778 bw795 bw742 bw796 hd_L_surrounds ⟨Nat.le_of_ble_eq_true rfl, Nat.le_of_ble_eq_true rfl⟩ hP (wX_D hD) hS rfl hl.1 rfl (Nat.le_of_ble_eq_true rfl) dL_surrounded_28 ⟨show (0 + 1 * (x3 : Int32).toNatClampNeg) + 1 ≤ 4 by omega, show (0 + 6 * (x3 : Int32).toNatClampNeg) + 6 ≤ 24 by omega⟩) hS (fun H locs hP hS => ?_)
            refine W.widen (k := (1 + 1 * (x3 : Int32).toNatClampNeg)) (n := (6 + 6 * (x3 : Int32).toNatClampNeg)) (by omega) (by omega) ?_
            refine lv_istore (lv' := [(5, .int u10.1), (4, .int u8), (0, .ref (E.2.1 0)), (1, .int x1), (2, .int x2), (3, .int x3)]) hx hb dL_surrounded_31 hl (by decide) rfl (fun ls hl => ?_)
            refine lv_iload hx hb dL_surrounded_33 (lv_at hl 0 rfl) ?_
            refine lv_bipush (v := (-9)) hx hb dL_surrounded_35 (by decide) ?_
            refine lv_icmp_eq (tgt := 60) hx hb dL_surrounded_37 (by decide) (fun c12 => ?_) (fun c12 => ?_)
            · replace hf := (if_pos c12).symm.trans hf
              refine lv_iconst (v := 1) hx hb dL_surrounded_60 (by decide) ?_
              refine lv_goto (tgt := 65) hx hb dL_surrounded_61 (by decide) ?_
              refine lv_istore_n (lv' := [(2, .int 1), (5, .int u10.1), (4, .int u8), (0, .ref (E.2.1 0)), (1, .int x1), (3, .int x3)]) hx hb dL_surrounded_65 rfl hl (by decide) rfl (fun ls hl => ?_)
              refine lv_iinc (v := (x3 + 1)) (lv' := [(3, .int (x3 + 1)), (2, .int 1), (5, .int u10.1), (4, .int u8), (0, .ref (E.2.1 0)), (1, .int x1)]) hx hb dL_surrounded_66 hl (k := 5) rfl rfl (by decide) rfl (fun ls hl => ?_)
              refine lv_goto (tgt := 4) hx hb dL_surrounded_69 (by decide) ?_
              refine W.widen (k := (0 + 1 * ((x3 + 1) : Int32).toNatClampNeg)) (n := (0 + 6 * ((x3 + 1) : Int32).toNatClampNeg)) (by omega) (by omega) ?_
              exact ih u10.2.1 u10.2.2 x1 1 (x3 + 1) _ _ _ hP hS (lv_sub hl [4, 5, 1, 0] rfl) hf
            · replace hf := (if_neg c12).symm.trans hf
              refine lv_iload hx hb dL_surrounded_40 (lv_at hl 0 rfl) ?_
              refine lv_iload hx hb dL_surrounded_42 (lv_at hl 1 rfl) ?_
              refine lv_iand hx hb dL_surrounded_44 ?_
              refine lv_iload hx hb dL_surrounded_45 (lv_at hl 1 rfl) ?_
              refine lv_icmp_ne (tgt := 64) hx hb dL_surrounded_47 (by decide) (fun c13 => ?_) (fun c13 => ?_)
              · replace hf := (if_neg c13).symm.trans hf
                refine lv_iconst (v := 0) hx hb dL_surrounded_64 (by decide) ?_
                refine lv_istore_n (lv' := [(2, .int 0), (5, .int u10.1), (4, .int u8), (0, .ref (E.2.1 0)), (1, .int x1), (3, .int x3)]) hx hb dL_surrounded_65 rfl hl (by decide) rfl (fun ls hl => ?_)
                refine lv_iinc (v := (x3 + 1)) (lv' := [(3, .int (x3 + 1)), (2, .int 0), (5, .int u10.1), (4, .int u8), (0, .ref (E.2.1 0)), (1, .int x1)]) hx hb dL_surrounded_66 hl (k := 5) rfl rfl (by decide) rfl (fun ls hl => ?_)
                refine lv_goto (tgt := 4) hx hb dL_surrounded_69 (by decide) ?_
                refine W.widen (k := (0 + 1 * ((x3 + 1) : Int32).toNatClampNeg)) (n := (0 + 6 * ((x3 + 1) : Int32).toNatClampNeg)) (by omega) (by omega) ?_
                exact ih u10.2.1 u10.2.2 x1 0 (x3 + 1) _ _ _ hP hS (lv_sub hl [4, 5, 1, 0] rfl) hf
              · replace hf := (if_pos c13).symm.trans hf
                refine lv_iload hx hb dL_surrounded_50 (lv_at hl 1 rfl) ?_
                refine lv_if_ne (tgt := 60) hx hb dL_surrounded_52 (by decide) (fun c14 => ?_) (fun c14 => ?_)
                · replace hf := (if_neg c14).symm.trans hf
                  refine lv_iconst (v := 1) hx hb dL_surrounded_60 (by decide) ?_
                  refine lv_goto (tgt := 65) hx hb dL_surrounded_61 (by decide) ?_
                  refine lv_istore_n (lv' := [(2, .int 1), (5, .int u10.1), (4, .int u8), (0, .ref (E.2.1 0)), (1, .int x1), (3, .int x3)]) hx hb dL_surrounded_65 rfl hl (by decide) rfl (fun ls hl => ?_)
                  refine lv_iinc (v := (x3 + 1)) (lv' := [(3, .int (x3 + 1)), (2, .int 1), (5, .int u10.1), (4, .int u8), (0, .ref (E.2.1 0)), (1, .int x1)]) hx hb dL_surrounded_66 hl (k := 5) rfl rfl (by decide) rfl (fun ls hl => ?_)
                  refine lv_goto (tgt := 4) hx hb dL_surrounded_69 (by decide) ?_
                  refine W.widen (k := (0 + 1 * ((x3 + 1) : Int32).toNatClampNeg)) (n := (0 + 6 * ((x3 + 1) : Int32).toNatClampNeg)) (by omega) (by omega) ?_
                  exact ih u10.2.1 u10.2.2 x1 1 (x3 + 1) _ _ _ hP hS (lv_sub hl [4, 5, 1, 0] rfl) hf
                · replace hf := (if_pos c14).symm.trans hf
                  refine lv_iload hx hb dL_surrounded_55 (lv_at hl 0 rfl) ?_
                  refine lv_if_ne (tgt := 64) hx hb dL_surrounded_57 (by decide) (fun c15 => ?_) (fun c15 => ?_)
                  · replace hf := (if_neg c15).symm.trans hf
                    refine lv_iconst (v := 0) hx hb dL_surrounded_64 (by decide) ?_
                    refine lv_istore_n (lv' := [(2, .int 0), (5, .int u10.1), (4, .int u8), (0, .ref (E.2.1 0)), (1, .int x1), (3, .int x3)]) hx hb dL_surrounded_65 rfl hl (by decide) rfl (fun ls hl => ?_)
                    refine lv_iinc (v := (x3 + 1)) (lv' := [(3, .int (x3 + 1)), (2, .int 0), (5, .int u10.1), (4, .int u8), (0, .ref (E.2.1 0)), (1, .int x1)]) hx hb dL_surrounded_66 hl (k := 5) rfl rfl (by decide) rfl (fun ls hl => ?_)
                    refine lv_goto (tgt := 4) hx hb dL_surrounded_69 (by decide) ?_
                    refine W.widen (k := (0 + 1 * ((x3 + 1) : Int32).toNatClampNeg)) (n := (0 + 6 * ((x3 + 1) : Int32).toNatClampNeg)) (by omega) (by omega) ?_
                    exact ih u10.2.1 u10.2.2 x1 0 (x3 + 1) _ _ _ hP hS (lv_sub hl [4, 5, 1, 0] rfl) hf
                  · replace hf := (if_pos c15).symm.trans hf
                    refine lv_iconst (v := 1) hx hb dL_surrounded_60 (by decide) ?_
                    refine lv_goto (tgt := 65) hx hb dL_surrounded_61 (by decide) ?_
                    refine lv_istore_n (lv' := [(2, .int 1), (5, .int u10.1), (4, .int u8), (0, .ref (E.2.1 0)), (1, .int x1), (3, .int x3)]) hx hb dL_surrounded_65 rfl hl (by decide) rfl (fun ls hl => ?_)
                    refine lv_iinc (v := (x3 + 1)) (lv' := [(3, .int (x3 + 1)), (2, .int 1), (5, .int u10.1), (4, .int u8), (0, .ref (E.2.1 0)), (1, .int x1)]) hx hb dL_surrounded_66 hl (k := 5) rfl rfl (by decide) rfl (fun ls hl => ?_)
                    refine lv_goto (tgt := 4) hx hb dL_surrounded_69 (by decide) ?_
                    refine W.widen (k := (0 + 1 * ((x3 + 1) : Int32).toNatClampNeg)) (n := (0 + 6 * ((x3 + 1) : Int32).toNatClampNeg)) (by omega) (by omega) ?_
                    exact ih u10.2.1 u10.2.2 x1 1 (x3 + 1) _ _ _ hP hS (lv_sub hl [4, 5, 1, 0] rfl) hf
  refine lv_iconst (v := 1) hx hb dL_surrounded_0 (by decide) ?_
  refine lv_istore_n (lv' := [(2, .int 1), (0, .ref (E.2.1 0)), (1, .int v1)]) hx hb dL_surrounded_1 rfl hl (by decide) rfl (fun ls hl => ?_)
  refine lv_iconst (v := 0) hx hb dL_surrounded_2 (by decide) ?_
  refine lv_istore_n (lv' := [(3, .int 0), (2, .int 1), (0, .ref (E.2.1 0)), (1, .int v1)]) hx hb dL_surrounded_3 rfl hl (by decide) rfl (fun ls hl => ?_)
  refine W.widen (k := (0 + 1 * (0 : Int32).toNatClampNeg)) (n := (0 + 6 * (0 : Int32).toNatClampNeg)) (by omega) (by omega) ?_
  exact B4 fu g a v1 1 0 _ _ _ hP hS (lv_sub hl [2, 3, 1, 0] rfl) hf
def f_L_formula_266 (g : xG) (a : xA) (x9 : Int32) (x10 : Int32) : Option (Int32 × xG × xA) := (if x10 = 0 then some ((-1), g, a) else some (x9, g, a))
def f_L_formula_216 : Nat → xG → xA → Int32 → Int32 → Int32 → Int32 → Int32 → Int32 → Option (Int32 × xG × xA)
  | 0, _, _, _, _, _, _, _, _ => none
  | n + 1, g, a, x2, x3, x8, x9, x10, x11 => (if x3 ≤ x11 then f_L_formula_266 g a x9 x10 else (if x10 = 0 then f_L_formula_266 g a x9 x10 else (if x8 < 0 then f_L_formula_266 g a x9 x10 else Option.bind (f_L_keepsAll g a x11 x2) (fun u38 => (if u38.1 = 0 then f_L_formula_216 n u38.2.1 u38.2.2 x2 x3 x8 x9 1 (x11 + 1) else Option.bind (rgt (f_X11_keeps u38.2.1 u38.2.2 x11 x8)) (fun u41 => (if u41.1 = 0 then f_L_formula_216 n u41.2.1 u41.2.2 x2 x3 x8 x9 0 (x11 + 1) else f_L_formula_216 n u41.2.1 u41.2.2 x2 x3 x8 x9 1 (x11 + 1))))))))
theorem e_L_formula_216 (n : Nat) (g : xG) (a : xA) (x2 : Int32) (x3 : Int32) (x8 : Int32) (x9 : Int32) (x10 : Int32) (x11 : Int32) : f_L_formula_216 (n + 1) g a x2 x3 x8 x9 x10 x11 = (if x3 ≤ x11 then f_L_formula_266 g a x9 x10 else (if x10 = 0 then f_L_formula_266 g a x9 x10 else (if x8 < 0 then f_L_formula_266 g a x9 x10 else Option.bind (f_L_keepsAll g a x11 x2) (fun u38 => (if u38.1 = 0 then f_L_formula_216 n u38.2.1 u38.2.2 x2 x3 x8 x9 1 (x11 + 1) else Option.bind (rgt (f_X11_keeps u38.2.1 u38.2.2 x11 x8)) (fun u41 => (if u41.1 = 0 then f_L_formula_216 n u41.2.1 u41.2.2 x2 x3 x8 x9 0 (x11 + 1) else f_L_formula_216 n u41.2.1 u41.2.2 x2 x3 x8 x9 1 (x11 + 1)))))))) := rfl
def f_L_formula_193 (g : xG) (a : xA) (x2 : Int32) (x3 : Int32) (x8 : Int32) (s0 : Int32) : Option (Int32 × xG × xA) := (if x8 < 0 then f_L_formula_216 fu g a x2 x3 x8 s0 1 0 else (if x8 = x2 then f_L_formula_216 fu g a x2 x3 x8 s0 1 0 else f_L_formula_216 fu g a x2 x3 x8 s0 0 0))
def f_L_formula_176 (g : xG) (a : xA) (x2 : Int32) (x3 : Int32) (x8 : Int32) (s0 : Int32) (s1 : Int32) : Option (Int32 × xG × xA) := (if s1 = s0 then (if x8 < 0 then f_L_formula_193 g a x2 x3 x8 x2 else f_L_formula_193 g a x2 x3 x8 (x2 + 1)) else some ((-1), g, a))
def f_L_formula_165 (g : xG) (a : xA) (x2 : Int32) (x3 : Int32) (x6 : Int32) (x8 : Int32) (s0 : Int32) : Option (Int32 × xG × xA) := (if x6 = (-1) then f_L_formula_176 g a x2 x3 x8 0 s0 else f_L_formula_176 g a x2 x3 x8 1 s0)
def f_L_formula_148 (g : xG) (a : xA) (x2 : Int32) (x3 : Int32) (x6 : Int32) (x7 : Int32) (x8 : Int32) (s0 : Int32) : Option (Int32 × xG × xA) := (if s0 = x7 then (if x8 = (-7) then f_L_formula_165 g a x2 x3 x6 x8 1 else f_L_formula_165 g a x2 x3 x6 x8 0) else some ((-1), g, a))
def f_L_formula_129 (g : xG) (a : xA) (x2 : Int32) (x3 : Int32) (x6 : Int32) (s0 : Int32) : Option (Int32 × xG × xA) := Option.bind (f_L_defines g a) (fun u25 => (if x6 = (-1) then f_L_formula_148 u25.2.1 u25.2.2 x2 x3 x6 s0 u25.1 1 else f_L_formula_148 u25.2.1 u25.2.2 x2 x3 x6 s0 u25.1 0))
def f_L_formula (g : xG) (a : xA) (v1 : Int32) (v2 : Int32) (v3 : Int32) : Option (Int32 × xG × xA) := Option.bind (f_L_low g a v1 v2) (fun u1 => Option.bind (f_L_low g a ((v1 : Int32) >>> ((3 : Int32) &&& 31)) v2) (fun u3 => Option.bind (f_L_types (t_X11_wipe g a).2 a 97 98 58 (48 + u1)) (fun u5 => Option.bind (f_L_low u5.2.1 u5.2.2 ((v1 : Int32) >>> ((5 : Int32) &&& 31)) 4) (fun u7 => Option.bind (f_L_types u5.2.1 u5.2.2 40 97 44 (97 + u7)) (fun u9 => Option.bind (f_L_types u9.2.1 u9.2.2 41 38 (48 + u3) 40) (fun u11 => Option.bind (f_L_low u11.2.1 u11.2.2 ((v1 : Int32) >>> ((7 : Int32) &&& 31)) 4) (fun u13 => Option.bind (f_L_types u11.2.1 u11.2.2 (97 + u13) 44 98 41) (fun u15 => Option.bind (f_X11_fault u15.2.1 u15.2.2) (fun u17 => Option.bind (rgt (f_X11_ofRelation u17.2.1 u17.2.2 u1 0)) (fun u19 => (if u19 = 2 then Option.bind (rgt (f_X11_ofRelation u17.2.1 u17.2.2 u3 0)) (fun u22 => (if u22 = 2 then f_L_formula_129 u17.2.1 u17.2.2 v2 v3 u17.1 1 else f_L_formula_129 u17.2.1 u17.2.2 v2 v3 u17.1 0)) else f_L_formula_129 u17.2.1 u17.2.2 v2 v3 u17.1 0)))))))))))
set_option maxRecDepth 100000 in
set_option maxHeartbeats 40000000 in
theorem c_L_formula (l : Launch) (hstk : l.stackTraces = false) (E : xE) (g : xG) (a : xA) (v1 : Int32) (v2 : Int32) (v3 : Int32) {res : Int32 × xG × xA} (hf : f_L_formula g a v1 v2 v3 = some res) : xV l E yL_formula (.code yL_formula cL_formula 12 (some .int)) 17 389 5 30 [.ref (E.2.1 0), .int v1, .int v2, .int v3] (wX E g a) res.1 (wX E res.2.1 res.2.2) := by
  refine xV_of hstk (by decide) rfl (Nat.le_of_ble_eq_true rfl) ?_
  intro p e s m below meth c A C0 hr hlocks hD hP hS ls hl
  obtain ⟨hx, hb, hml, hown, hw, hA, hK, hN, hT, hst, hz, hnc, -⟩ := id C0
  have hl : lv_has ls 12 [(0, .ref (E.2.1 0)), (1, .int v1), (2, .int v2), (3, .int v3)] := hl
  unfold f_L_formula at hf
  have B266 : ∀ (g : xG) (a : xA) (x9 : Int32) (x10 : Int32) (H : Heap) (locs : List Loc) (ls : Array Slot), va_P E.1 vwCl (wX E g a) H → va_S A s.heap H locs → lv_has ls 12 [(9, .int x9), (10, .int x10)] → f_L_formula_266 g a x9 x10 = some res → W p l e ({ frames := 17, cells := 5, slots := 30, locals := 389 }) s m ([.ref (E.2.1 0), .int v1, .int v2, .int v3] : List Value).toArray below meth c H locs 5 30 (MQ below (xQi E res.1 (wX E res.2.1 res.2.2) A) ([.ref (E.2.1 0), .int v1, .int v2, .int v3] : List Value).toArray s 5 30 A) (F0 m 266 ls []) := by
    intro g a x9 x10 H locs ls hP hS hl hf
    unfold f_L_formula_266 at hf
    refine lv_iload hx hb dL_formula_266 (lv_at hl 1 rfl) ?_
    refine lv_if_eq (tgt := 276) hx hb dL_formula_268 (by decide) (fun c44 => ?_) (fun c44 => ?_)
    · replace hf := (if_pos c44).symm.trans hf
      refine lv_iconst (v := (-1)) hx hb dL_formula_276 (by decide) ?_
      obtain rfl := Option.some.inj hf
      exact gi_ret hx hb hr hlocks hP hS rfl (by omega) (by omega) dL_formula_277
    · replace hf := (if_neg c44).symm.trans hf
      refine lv_iload hx hb dL_formula_271 (lv_at hl 0 rfl) ?_
      refine lv_goto (tgt := 277) hx hb dL_formula_273 (by decide) ?_
      obtain rfl := Option.some.inj hf
      exact gi_ret hx hb hr hlocks hP hS rfl (by omega) (by omega) dL_formula_277
  have B216 : ∀ (n : Nat) (g : xG) (a : xA) (x2 : Int32) (x3 : Int32) (x8 : Int32) (x9 : Int32) (x10 : Int32) (x11 : Int32) (H : Heap) (locs : List Loc) (ls : Array Slot), va_P E.1 vwCl (wX E g a) H → va_S A s.heap H locs → lv_has ls 12 [(0, .ref (E.2.1 0)), (2, .int x2), (3, .int x3), (8, .int x8), (9, .int x9), (10, .int x10), (11, .int x11)] → f_L_formula_216 n g a x2 x3 x8 x9 x10 x11 = some res → W p l e ({ frames := 17, cells := 5, slots := 30, locals := 389 }) s m ([.ref (E.2.1 0), .int v1, .int v2, .int v3] : List Value).toArray below meth c H locs 5 30 (MQ below (xQi E res.1 (wX E res.2.1 res.2.2) A) ([.ref (E.2.1 0), .int v1, .int v2, .int v3] : List Value).toArray s 5 30 A) (F0 m 216 ls []) := by
    intro n
    induction n with
    | zero => intro g a x2 x3 x8 x9 x10 x11 H locs ls hP hS hl hf; exact absurd (show (none : Option (Int32 × xG × xA)) = some res from hf) (by intro h; cases h)
    | succ n ih =>
      intro g a x2 x3 x8 x9 x10 x11 H locs ls hP hS hl hf
      replace hf := (e_L_formula_216 n g a x2 x3 x8 x9 x10 x11).symm.trans hf
      refine lv_iload hx hb dL_formula_216 (lv_at hl 6 rfl) ?_
      refine lv_iload_n hx hb dL_formula_218 rfl (lv_at hl 2 rfl) ?_
      refine lv_icmp_ge (tgt := 266) hx hb dL_formula_219 (by decide) (fun c35 => ?_) (fun c35 => ?_)
      · replace hf := (if_pos c35).symm.trans hf
        exact B266 g a x9 x10 _ _ _ hP hS (lv_sub hl [4, 5] rfl) hf
      · replace hf := (if_neg c35).symm.trans hf
        refine lv_iload hx hb dL_formula_222 (lv_at hl 5 rfl) ?_
        refine lv_if_eq (tgt := 266) hx hb dL_formula_224 (by decide) (fun c36 => ?_) (fun c36 => ?_)
        · replace hf := (if_pos c36).symm.trans hf
          exact B266 g a x9 x10 _ _ _ hP hS (lv_sub hl [4, 5] rfl) hf
        · replace hf := (if_neg c36).symm.trans hf
          refine lv_iload hx hb dL_formula_227 (lv_at hl 3 rfl) ?_
          refine lv_if_lt (tgt := 266) hx hb dL_formula_229 (by decide) (fun c37 => ?_) (fun c37 => ?_)
          · replace hf := (if_pos c37).symm.trans hf
            exact B266 g a x9 x10 _ _ _ hP hS (lv_sub hl [4, 5] rfl) hf
          · replace hf := (if_neg c37).symm.trans hf
            refine lv_aload_n hx hb dL_formula_232 rfl (lv_at hl 0 rfl) ?_
            refine lv_iload hx hb dL_formula_233 (lv_at hl 6 rfl) ?_
            refine lv_iload_n hx hb dL_formula_235 rfl (lv_at hl 1 rfl) ?_
            obtain ⟨u38, e39, hf⟩ := bd_some hf
            refine xci (gRunS (rest := []) (As := [.ref (E.2.1 0), .int x11, .int x2]) (k := 3) C0 (c_L_keepsAll l E g a x11 x2 e39) bw835 bw846 bw742 bw847 hd_L_keepsAll ⟨Nat.le_of_ble_eq_true rfl, Nat.le_of_ble_eq_true rfl⟩ hP (wX_D hD) hS rfl hl.1 rfl (Nat.le_of_ble_eq_true rfl) dL_formula_236 ⟨show 5 ≤ 5 by omega, show 30 ≤ 30 by omega⟩) hS (fun H locs hP hS => ?_)
            refine lv_if_eq (tgt := 253) hx hb dL_formula_239 (by decide) (fun c40 => ?_) (fun c40 => ?_)
            · replace hf := (if_pos c40).symm.trans hf
              refine lv_iconst (v := 1) hx hb dL_formula_253 (by decide) ?_
              refine lv_goto (tgt := 258) hx hb dL_formula_254 (by decide) ?_
              refine lv_istore (lv' := [(10, .int 1), (0, .ref (E.2.1 0)), (2, .int x2), (3, .int x3), (8, .int x8), (9, .int x9), (11, .int x11)]) hx hb dL_formula_258 hl (by decide) rfl (fun ls hl => ?_)
              refine lv_iinc (v := (x11 + 1)) (lv' := [(11, .int (x11 + 1)), (10, .int 1), (0, .ref (E.2.1 0)), (2, .int x2), (3, .int x3), (8, .int x8), (9, .int x9)]) hx hb dL_formula_260 hl (k := 6) rfl rfl (by decide) rfl (fun ls hl => ?_)
              refine lv_goto (tgt := 216) hx hb dL_formula_263 (by decide) ?_
              exact ih u38.2.1 u38.2.2 x2 x3 x8 x9 1 (x11 + 1) _ _ _ hP hS (lv_sub hl [2, 3, 4, 5, 6, 1, 0] rfl) hf
            · replace hf := (if_neg c40).symm.trans hf
              refine lv_aload_n hx hb dL_formula_242 rfl (lv_at hl 0 rfl) ?_
              refine lv_iload hx hb dL_formula_243 (lv_at hl 6 rfl) ?_
              refine lv_iload hx hb dL_formula_245 (lv_at hl 3 rfl) ?_
              obtain ⟨u41, e42, hf⟩ := bd_some hf
              refine xci (gRunV (rest := []) (As := [.int x11, .int x8]) (C := RX11) (k := 2) C0 (cr_X11_keeps l E u38.2.1 u38.2.2 x11 x8 (rgt_some e42)) bw634 bw791 bw13 bw792 bw793 hd_X11_keeps ⟨Nat.le_of_ble_eq_true rfl, Nat.le_of_ble_eq_true rfl⟩ hP (wX_D hD) hS (va_recv hK hP (ci := 11) rfl (gx_0 E u38.2.1 u38.2.2)) rfl hl.1 rfl (Nat.le_of_ble_eq_true rfl) dL_formula_247 ⟨show 5 ≤ 5 by omega, show 30 ≤ 30 by omega⟩) hS (fun H locs hP hS => ?_)
              refine lv_if_eq (tgt := 257) hx hb dL_formula_250 (by decide) (fun c43 => ?_) (fun c43 => ?_)
              · replace hf := (if_pos c43).symm.trans hf
                refine lv_iconst (v := 0) hx hb dL_formula_257 (by decide) ?_
                refine lv_istore (lv' := [(10, .int 0), (0, .ref (E.2.1 0)), (2, .int x2), (3, .int x3), (8, .int x8), (9, .int x9), (11, .int x11)]) hx hb dL_formula_258 hl (by decide) rfl (fun ls hl => ?_)
                refine lv_iinc (v := (x11 + 1)) (lv' := [(11, .int (x11 + 1)), (10, .int 0), (0, .ref (E.2.1 0)), (2, .int x2), (3, .int x3), (8, .int x8), (9, .int x9)]) hx hb dL_formula_260 hl (k := 6) rfl rfl (by decide) rfl (fun ls hl => ?_)
                refine lv_goto (tgt := 216) hx hb dL_formula_263 (by decide) ?_
                exact ih u41.2.1 u41.2.2 x2 x3 x8 x9 0 (x11 + 1) _ _ _ hP hS (lv_sub hl [2, 3, 4, 5, 6, 1, 0] rfl) hf
              · replace hf := (if_neg c43).symm.trans hf
                refine lv_iconst (v := 1) hx hb dL_formula_253 (by decide) ?_
                refine lv_goto (tgt := 258) hx hb dL_formula_254 (by decide) ?_
                refine lv_istore (lv' := [(10, .int 1), (0, .ref (E.2.1 0)), (2, .int x2), (3, .int x3), (8, .int x8), (9, .int x9), (11, .int x11)]) hx hb dL_formula_258 hl (by decide) rfl (fun ls hl => ?_)
                refine lv_iinc (v := (x11 + 1)) (lv' := [(11, .int (x11 + 1)), (10, .int 1), (0, .ref (E.2.1 0)), (2, .int x2), (3, .int x3), (8, .int x8), (9, .int x9)]) hx hb dL_formula_260 hl (k := 6) rfl rfl (by decide) rfl (fun ls hl => ?_)
                refine lv_goto (tgt := 216) hx hb dL_formula_263 (by decide) ?_
                exact ih u41.2.1 u41.2.2 x2 x3 x8 x9 1 (x11 + 1) _ _ _ hP hS (lv_sub hl [2, 3, 4, 5, 6, 1, 0] rfl) hf
  have B193 : ∀ (g : xG) (a : xA) (x2 : Int32) (x3 : Int32) (x8 : Int32) (s0 : Int32) (H : Heap) (locs : List Loc) (ls : Array Slot), va_P E.1 vwCl (wX E g a) H → va_S A s.heap H locs → lv_has ls 12 [(0, .ref (E.2.1 0)), (2, .int x2), (3, .int x3), (8, .int x8)] → f_L_formula_193 g a x2 x3 x8 s0 = some res → W p l e ({ frames := 17, cells := 5, slots := 30, locals := 389 }) s m ([.ref (E.2.1 0), .int v1, .int v2, .int v3] : List Value).toArray below meth c H locs 5 30 (MQ below (xQi E res.1 (wX E res.2.1 res.2.2) A) ([.ref (E.2.1 0), .int v1, .int v2, .int v3] : List Value).toArray s 5 30 A) (F0 m 193 ls [.int s0]) := by
    intro g a x2 x3 x8 s0 H locs ls hP hS hl hf
    unfold f_L_formula_193 at hf
    refine lv_istore (lv' := [(9, .int s0), (0, .ref (E.2.1 0)), (2, .int x2), (3, .int x3), (8, .int x8)]) hx hb dL_formula_193 hl (by decide) rfl (fun ls hl => ?_)
    refine lv_iload hx hb dL_formula_195 (lv_at hl 4 rfl) ?_
    refine lv_if_lt (tgt := 206) hx hb dL_formula_197 (by decide) (fun c33 => ?_) (fun c33 => ?_)
    · replace hf := (if_pos c33).symm.trans hf
      refine lv_iconst (v := 1) hx hb dL_formula_206 (by decide) ?_
      refine lv_goto (tgt := 211) hx hb dL_formula_207 (by decide) ?_
      refine lv_istore (lv' := [(10, .int 1), (9, .int s0), (0, .ref (E.2.1 0)), (2, .int x2), (3, .int x3), (8, .int x8)]) hx hb dL_formula_211 hl (by decide) rfl (fun ls hl => ?_)
      refine lv_iconst (v := 0) hx hb dL_formula_213 (by decide) ?_
      refine lv_istore (lv' := [(11, .int 0), (10, .int 1), (9, .int s0), (0, .ref (E.2.1 0)), (2, .int x2), (3, .int x3), (8, .int x8)]) hx hb dL_formula_214 hl (by decide) rfl (fun ls hl => ?_)
      exact B216 fu g a x2 x3 x8 s0 1 0 _ _ _ hP hS (lv_sub hl [3, 4, 5, 6, 2, 1, 0] rfl) hf
    · replace hf := (if_neg c33).symm.trans hf
      refine lv_iload hx hb dL_formula_200 (lv_at hl 4 rfl) ?_
      refine lv_iload_n hx hb dL_formula_202 rfl (lv_at hl 2 rfl) ?_
      refine lv_icmp_ne (tgt := 210) hx hb dL_formula_203 (by decide) (fun c34 => ?_) (fun c34 => ?_)
      · replace hf := (if_neg c34).symm.trans hf
        refine lv_iconst (v := 0) hx hb dL_formula_210 (by decide) ?_
        refine lv_istore (lv' := [(10, .int 0), (9, .int s0), (0, .ref (E.2.1 0)), (2, .int x2), (3, .int x3), (8, .int x8)]) hx hb dL_formula_211 hl (by decide) rfl (fun ls hl => ?_)
        refine lv_iconst (v := 0) hx hb dL_formula_213 (by decide) ?_
        refine lv_istore (lv' := [(11, .int 0), (10, .int 0), (9, .int s0), (0, .ref (E.2.1 0)), (2, .int x2), (3, .int x3), (8, .int x8)]) hx hb dL_formula_214 hl (by decide) rfl (fun ls hl => ?_)
        exact B216 fu g a x2 x3 x8 s0 0 0 _ _ _ hP hS (lv_sub hl [3, 4, 5, 6, 2, 1, 0] rfl) hf
      · replace hf := (if_pos c34).symm.trans hf
        refine lv_iconst (v := 1) hx hb dL_formula_206 (by decide) ?_
        refine lv_goto (tgt := 211) hx hb dL_formula_207 (by decide) ?_
        refine lv_istore (lv' := [(10, .int 1), (9, .int s0), (0, .ref (E.2.1 0)), (2, .int x2), (3, .int x3), (8, .int x8)]) hx hb dL_formula_211 hl (by decide) rfl (fun ls hl => ?_)
        refine lv_iconst (v := 0) hx hb dL_formula_213 (by decide) ?_
        refine lv_istore (lv' := [(11, .int 0), (10, .int 1), (9, .int s0), (0, .ref (E.2.1 0)), (2, .int x2), (3, .int x3), (8, .int x8)]) hx hb dL_formula_214 hl (by decide) rfl (fun ls hl => ?_)
        exact B216 fu g a x2 x3 x8 s0 1 0 _ _ _ hP hS (lv_sub hl [3, 4, 5, 6, 2, 1, 0] rfl) hf
  have B176 : ∀ (g : xG) (a : xA) (x2 : Int32) (x3 : Int32) (x8 : Int32) (s0 : Int32) (s1 : Int32) (H : Heap) (locs : List Loc) (ls : Array Slot), va_P E.1 vwCl (wX E g a) H → va_S A s.heap H locs → lv_has ls 12 [(0, .ref (E.2.1 0)), (2, .int x2), (3, .int x3), (8, .int x8)] → f_L_formula_176 g a x2 x3 x8 s0 s1 = some res → W p l e ({ frames := 17, cells := 5, slots := 30, locals := 389 }) s m ([.ref (E.2.1 0), .int v1, .int v2, .int v3] : List Value).toArray below meth c H locs 5 30 (MQ below (xQi E res.1 (wX E res.2.1 res.2.2) A) ([.ref (E.2.1 0), .int v1, .int v2, .int v3] : List Value).toArray s 5 30 A) (F0 m 176 ls [.int s0, .int s1]) := by
    intro g a x2 x3 x8 s0 s1 H locs ls hP hS hl hf
    unfold f_L_formula_176 at hf
    refine lv_icmp_eq (tgt := 181) hx hb dL_formula_176 (by decide) (fun c31 => ?_) (fun c31 => ?_)
    · replace hf := (if_pos c31).symm.trans hf
      refine lv_iload hx hb dL_formula_181 (lv_at hl 3 rfl) ?_
      refine lv_if_lt (tgt := 192) hx hb dL_formula_183 (by decide) (fun c32 => ?_) (fun c32 => ?_)
      · replace hf := (if_pos c32).symm.trans hf
        refine lv_iload_n hx hb dL_formula_192 rfl (lv_at hl 1 rfl) ?_
        exact B193 g a x2 x3 x8 x2 _ _ _ hP hS (lv_sub hl [0, 1, 2, 3] rfl) hf
      · replace hf := (if_neg c32).symm.trans hf
        refine lv_iload_n hx hb dL_formula_186 rfl (lv_at hl 1 rfl) ?_
        refine lv_iconst (v := 1) hx hb dL_formula_187 (by decide) ?_
        refine lv_iadd hx hb dL_formula_188 ?_
        refine lv_goto (tgt := 193) hx hb dL_formula_189 (by decide) ?_
        exact B193 g a x2 x3 x8 (x2 + 1) _ _ _ hP hS (lv_sub hl [0, 1, 2, 3] rfl) hf
    · replace hf := (if_neg c31).symm.trans hf
      refine lv_iconst (v := (-1)) hx hb dL_formula_179 (by decide) ?_
      obtain rfl := Option.some.inj hf
      exact gi_ret hx hb hr hlocks hP hS rfl (by omega) (by omega) dL_formula_180
  have B165 : ∀ (g : xG) (a : xA) (x2 : Int32) (x3 : Int32) (x6 : Int32) (x8 : Int32) (s0 : Int32) (H : Heap) (locs : List Loc) (ls : Array Slot), va_P E.1 vwCl (wX E g a) H → va_S A s.heap H locs → lv_has ls 12 [(0, .ref (E.2.1 0)), (2, .int x2), (3, .int x3), (6, .int x6), (8, .int x8)] → f_L_formula_165 g a x2 x3 x6 x8 s0 = some res → W p l e ({ frames := 17, cells := 5, slots := 30, locals := 389 }) s m ([.ref (E.2.1 0), .int v1, .int v2, .int v3] : List Value).toArray below meth c H locs 5 30 (MQ below (xQi E res.1 (wX E res.2.1 res.2.2) A) ([.ref (E.2.1 0), .int v1, .int v2, .int v3] : List Value).toArray s 5 30 A) (F0 m 165 ls [.int s0]) := by
    intro g a x2 x3 x6 x8 s0 H locs ls hP hS hl hf
    unfold f_L_formula_165 at hf
    refine lv_iload hx hb dL_formula_165 (lv_at hl 3 rfl) ?_
    refine lv_iconst (v := (-1)) hx hb dL_formula_167 (by decide) ?_
    refine lv_icmp_eq (tgt := 175) hx hb dL_formula_168 (by decide) (fun c30 => ?_) (fun c30 => ?_)
    · replace hf := (if_pos c30).symm.trans hf
      refine lv_iconst (v := 0) hx hb dL_formula_175 (by decide) ?_
      exact B176 g a x2 x3 x8 0 s0 _ _ _ hP hS (lv_sub hl [0, 1, 2, 4] rfl) hf
    · replace hf := (if_neg c30).symm.trans hf
      refine lv_iconst (v := 1) hx hb dL_formula_171 (by decide) ?_
      refine lv_goto (tgt := 176) hx hb dL_formula_172 (by decide) ?_
      exact B176 g a x2 x3 x8 1 s0 _ _ _ hP hS (lv_sub hl [0, 1, 2, 4] rfl) hf
  have B148 : ∀ (g : xG) (a : xA) (x2 : Int32) (x3 : Int32) (x6 : Int32) (x7 : Int32) (x8 : Int32) (s0 : Int32) (H : Heap) (locs : List Loc) (ls : Array Slot), va_P E.1 vwCl (wX E g a) H → va_S A s.heap H locs → lv_has ls 12 [(0, .ref (E.2.1 0)), (2, .int x2), (3, .int x3), (6, .int x6), (7, .int x7), (8, .int x8)] → f_L_formula_148 g a x2 x3 x6 x7 x8 s0 = some res → W p l e ({ frames := 17, cells := 5, slots := 30, locals := 389 }) s m ([.ref (E.2.1 0), .int v1, .int v2, .int v3] : List Value).toArray below meth c H locs 5 30 (MQ below (xQi E res.1 (wX E res.2.1 res.2.2) A) ([.ref (E.2.1 0), .int v1, .int v2, .int v3] : List Value).toArray s 5 30 A) (F0 m 148 ls [.int s0]) := by
    intro g a x2 x3 x6 x7 x8 s0 H locs ls hP hS hl hf
    unfold f_L_formula_148 at hf
    refine lv_iload hx hb dL_formula_148 (lv_at hl 4 rfl) ?_
    refine lv_icmp_ne (tgt := 179) hx hb dL_formula_150 (by decide) (fun c28 => ?_) (fun c28 => ?_)
    · replace hf := (if_neg c28).symm.trans hf
      refine lv_iconst (v := (-1)) hx hb dL_formula_179 (by decide) ?_
      obtain rfl := Option.some.inj hf
      exact gi_ret hx hb hr hlocks hP hS rfl (by omega) (by omega) dL_formula_180
    · replace hf := (if_pos c28).symm.trans hf
      refine lv_iload hx hb dL_formula_153 (lv_at hl 5 rfl) ?_
      refine lv_bipush (v := (-7)) hx hb dL_formula_155 (by decide) ?_
      refine lv_icmp_ne (tgt := 164) hx hb dL_formula_157 (by decide) (fun c29 => ?_) (fun c29 => ?_)
      · replace hf := (if_neg c29).symm.trans hf
        refine lv_iconst (v := 0) hx hb dL_formula_164 (by decide) ?_
        exact B165 g a x2 x3 x6 x8 0 _ _ _ hP hS (lv_sub hl [0, 1, 2, 3, 5] rfl) hf
      · replace hf := (if_pos c29).symm.trans hf
        refine lv_iconst (v := 1) hx hb dL_formula_160 (by decide) ?_
        refine lv_goto (tgt := 165) hx hb dL_formula_161 (by decide) ?_
        exact B165 g a x2 x3 x6 x8 1 _ _ _ hP hS (lv_sub hl [0, 1, 2, 3, 5] rfl) hf
  have B129 : ∀ (g : xG) (a : xA) (x2 : Int32) (x3 : Int32) (x6 : Int32) (s0 : Int32) (H : Heap) (locs : List Loc) (ls : Array Slot), va_P E.1 vwCl (wX E g a) H → va_S A s.heap H locs → lv_has ls 12 [(0, .ref (E.2.1 0)), (2, .int x2), (3, .int x3), (6, .int x6)] → f_L_formula_129 g a x2 x3 x6 s0 = some res → W p l e ({ frames := 17, cells := 5, slots := 30, locals := 389 }) s m ([.ref (E.2.1 0), .int v1, .int v2, .int v3] : List Value).toArray below meth c H locs 4 24 (MQ below (xQi E res.1 (wX E res.2.1 res.2.2) A) ([.ref (E.2.1 0), .int v1, .int v2, .int v3] : List Value).toArray s 5 30 A) (F0 m 129 ls [.int s0]) := by
    intro g a x2 x3 x6 s0 H locs ls hP hS hl hf
    unfold f_L_formula_129 at hf
    refine lv_istore (lv' := [(7, .int s0), (0, .ref (E.2.1 0)), (2, .int x2), (3, .int x3), (6, .int x6)]) hx hb dL_formula_129 hl (by decide) rfl (fun ls hl => ?_)
    refine lv_aload_n hx hb dL_formula_131 rfl (lv_at hl 1 rfl) ?_
    obtain ⟨u25, e26, hf⟩ := bd_some hf
    refine gci (gRunW (rest := []) (As := [.ref (E.2.1 0)]) (k := 1) C0 (c_L_defines l hstk E g a e26) bw774 bw844 bw742 bw845 hd_L_defines ⟨Nat.le_of_ble_eq_true rfl, Nat.le_of_ble_eq_true rfl⟩ hP (wX_D hD) hS rfl hl.1 rfl (Nat.le_of_ble_eq_true rfl) dL_formula_132 ⟨show 4 + 1 ≤ 5 by omega, show 24 + 6 ≤ 30 by omega⟩) hS (fun H locs hP hS => ?_)
    refine W.widen (k := 5) (n := 30) (by omega) (by omega) ?_
    refine lv_istore (lv' := [(8, .int u25.1), (7, .int s0), (0, .ref (E.2.1 0)), (2, .int x2), (3, .int x3), (6, .int x6)]) hx hb dL_formula_135 hl (by decide) rfl (fun ls hl => ?_)
    refine lv_iload hx hb dL_formula_137 (lv_at hl 5 rfl) ?_
    refine lv_iconst (v := (-1)) hx hb dL_formula_139 (by decide) ?_
    refine lv_icmp_ne (tgt := 147) hx hb dL_formula_140 (by decide) (fun c27 => ?_) (fun c27 => ?_)
    · replace hf := (if_neg c27).symm.trans hf
      refine lv_iconst (v := 0) hx hb dL_formula_147 (by decide) ?_
      exact B148 u25.2.1 u25.2.2 x2 x3 x6 s0 u25.1 0 _ _ _ hP hS (lv_sub hl [2, 3, 4, 5, 1, 0] rfl) hf
    · replace hf := (if_pos c27).symm.trans hf
      refine lv_iconst (v := 1) hx hb dL_formula_143 (by decide) ?_
      refine lv_goto (tgt := 148) hx hb dL_formula_144 (by decide) ?_
      exact B148 u25.2.1 u25.2.2 x2 x3 x6 s0 u25.1 1 _ _ _ hP hS (lv_sub hl [2, 3, 4, 5, 1, 0] rfl) hf
  refine lv_iload_n hx hb dL_formula_0 rfl (lv_at hl 1 rfl) ?_
  refine lv_iload_n hx hb dL_formula_1 rfl (lv_at hl 2 rfl) ?_
  obtain ⟨u1, e2, hf⟩ := bd_some hf
  refine xci (gRunS (rest := []) (As := [.int v1, .int v2]) (k := 2) C0 (c_L_low l E g a v1 v2 e2) bw730 bw740 bw742 bw741 hd_L_low ⟨Nat.le_of_ble_eq_true rfl, Nat.le_of_ble_eq_true rfl⟩ hP (wX_D hD) hS rfl hl.1 rfl (Nat.le_of_ble_eq_true rfl) dL_formula_2 ⟨show 0 ≤ 5 by omega, show 0 ≤ 30 by omega⟩) hS (fun H locs hP hS => ?_)
  refine lv_istore (lv' := [(4, .int u1), (0, .ref (E.2.1 0)), (1, .int v1), (2, .int v2), (3, .int v3)]) hx hb dL_formula_5 hl (by decide) rfl (fun ls hl => ?_)
  refine lv_iload_n hx hb dL_formula_7 rfl (lv_at hl 2 rfl) ?_
  refine lv_iconst (v := 3) hx hb dL_formula_8 (by decide) ?_
  refine lv_ishr hx hb dL_formula_9 ?_
  refine lv_iload_n hx hb dL_formula_10 rfl (lv_at hl 3 rfl) ?_
  obtain ⟨u3, e4, hf⟩ := bd_some hf
  refine xci (gRunS (rest := []) (As := [.int ((v1 : Int32) >>> ((3 : Int32) &&& 31)), .int v2]) (k := 2) C0 (c_L_low l E g a ((v1 : Int32) >>> ((3 : Int32) &&& 31)) v2 e4) bw730 bw740 bw742 bw741 hd_L_low ⟨Nat.le_of_ble_eq_true rfl, Nat.le_of_ble_eq_true rfl⟩ hP (wX_D hD) hS rfl hl.1 rfl (Nat.le_of_ble_eq_true rfl) dL_formula_11 ⟨show 0 ≤ 5 by omega, show 0 ≤ 30 by omega⟩) hS (fun H locs hP hS => ?_)
  refine lv_istore (lv' := [(5, .int u3), (4, .int u1), (0, .ref (E.2.1 0)), (1, .int v1), (2, .int v2), (3, .int v3)]) hx hb dL_formula_14 hl (by decide) rfl (fun ls hl => ?_)
  refine lv_aload_n hx hb dL_formula_16 rfl (lv_at hl 2 rfl) ?_
  refine xci (gRunV (rest := []) (As := []) (C := RX11) (k := 0) C0 (c_X11_wipe l E g a) bw687 bw836 bw13 bw837 bw838 hd_X11_wipe ⟨Nat.le_of_ble_eq_true rfl, Nat.le_of_ble_eq_true rfl⟩ hP (wX_D hD) hS (va_recv hK hP (ci := 11) rfl (gx_0 E g a)) rfl hl.1 rfl (Nat.le_of_ble_eq_true rfl) dL_formula_17 ⟨show 0 ≤ 5 by omega, show 0 ≤ 30 by omega⟩) hS (fun H locs hP hS => ?_)
  refine lv_pop hx hb dL_formula_20 rfl ?_
  refine lv_aload_n hx hb dL_formula_21 rfl (lv_at hl 2 rfl) ?_
  refine lv_bipush (v := 97) hx hb dL_formula_22 (by decide) ?_
  refine lv_bipush (v := 98) hx hb dL_formula_24 (by decide) ?_
  refine lv_bipush (v := 58) hx hb dL_formula_26 (by decide) ?_
  refine lv_bipush (v := 48) hx hb dL_formula_28 (by decide) ?_
  refine lv_iload hx hb dL_formula_30 (lv_at hl 1 rfl) ?_
  refine lv_iadd hx hb dL_formula_32 ?_
  obtain ⟨u5, e6, hf⟩ := bd_some hf
  refine gci (gRunW (rest := []) (As := [.ref (E.2.1 0), .int 97, .int 98, .int 58, .int (48 + u1)]) (k := 5) C0 (c_L_types l hstk E (t_X11_wipe g a).2 a 97 98 58 (48 + u1) e6) bw769 bw839 bw742 bw840 hd_L_types ⟨Nat.le_of_ble_eq_true rfl, Nat.le_of_ble_eq_true rfl⟩ hP (wX_D hD) hS rfl hl.1 rfl (Nat.le_of_ble_eq_true rfl) dL_formula_33 ⟨show 0 + 1 ≤ 5 by omega, show 0 + 6 ≤ 30 by omega⟩) hS (fun H locs hP hS => ?_)
  refine W.widen (k := 1) (n := 6) (by omega) (by omega) ?_
  refine lv_pop hx hb dL_formula_36 rfl ?_
  refine lv_aload_n hx hb dL_formula_37 rfl (lv_at hl 2 rfl) ?_
  refine lv_bipush (v := 40) hx hb dL_formula_38 (by decide) ?_
  refine lv_bipush (v := 97) hx hb dL_formula_40 (by decide) ?_
  refine lv_bipush (v := 44) hx hb dL_formula_42 (by decide) ?_
  refine lv_bipush (v := 97) hx hb dL_formula_44 (by decide) ?_
  refine lv_iload_n hx hb dL_formula_46 rfl (lv_at hl 3 rfl) ?_
  refine lv_iconst (v := 5) hx hb dL_formula_47 (by decide) ?_
  refine lv_ishr hx hb dL_formula_48 ?_
  refine lv_iconst (v := 4) hx hb dL_formula_49 (by decide) ?_
  obtain ⟨u7, e8, hf⟩ := bd_some hf
  refine xci (gRunS (rest := [.int 97, .int 44, .int 97, .int 40, .ref (E.2.1 0)]) (As := [.int ((v1 : Int32) >>> ((5 : Int32) &&& 31)), .int 4]) (k := 2) C0 (c_L_low l E u5.2.1 u5.2.2 ((v1 : Int32) >>> ((5 : Int32) &&& 31)) 4 e8) bw730 bw740 bw742 bw741 hd_L_low ⟨Nat.le_of_ble_eq_true rfl, Nat.le_of_ble_eq_true rfl⟩ hP (wX_D hD) hS rfl hl.1 rfl (Nat.le_of_ble_eq_true rfl) dL_formula_50 ⟨show 1 ≤ 5 by omega, show 6 ≤ 30 by omega⟩) hS (fun H locs hP hS => ?_)
  refine lv_iadd hx hb dL_formula_53 ?_
  obtain ⟨u9, e10, hf⟩ := bd_some hf
  refine gci (gRunW (rest := []) (As := [.ref (E.2.1 0), .int 40, .int 97, .int 44, .int (97 + u7)]) (k := 5) C0 (c_L_types l hstk E u5.2.1 u5.2.2 40 97 44 (97 + u7) e10) bw769 bw839 bw742 bw840 hd_L_types ⟨Nat.le_of_ble_eq_true rfl, Nat.le_of_ble_eq_true rfl⟩ hP (wX_D hD) hS rfl hl.1 rfl (Nat.le_of_ble_eq_true rfl) dL_formula_54 ⟨show 1 + 1 ≤ 5 by omega, show 6 + 6 ≤ 30 by omega⟩) hS (fun H locs hP hS => ?_)
  refine W.widen (k := 2) (n := 12) (by omega) (by omega) ?_
  refine lv_pop hx hb dL_formula_57 rfl ?_
  refine lv_aload_n hx hb dL_formula_58 rfl (lv_at hl 2 rfl) ?_
  refine lv_bipush (v := 41) hx hb dL_formula_59 (by decide) ?_
  refine lv_bipush (v := 38) hx hb dL_formula_61 (by decide) ?_
  refine lv_bipush (v := 48) hx hb dL_formula_63 (by decide) ?_
  refine lv_iload hx hb dL_formula_65 (lv_at hl 0 rfl) ?_
  refine lv_iadd hx hb dL_formula_67 ?_
  refine lv_bipush (v := 40) hx hb dL_formula_68 (by decide) ?_
  obtain ⟨u11, e12, hf⟩ := bd_some hf
  refine gci (gRunW (rest := []) (As := [.ref (E.2.1 0), .int 41, .int 38, .int (48 + u3), .int 40]) (k := 5) C0 (c_L_types l hstk E u9.2.1 u9.2.2 41 38 (48 + u3) 40 e12) bw769 bw839 bw742 bw840 hd_L_types ⟨Nat.le_of_ble_eq_true rfl, Nat.le_of_ble_eq_true rfl⟩ hP (wX_D hD) hS rfl hl.1 rfl (Nat.le_of_ble_eq_true rfl) dL_formula_70 ⟨show 2 + 1 ≤ 5 by omega, show 12 + 6 ≤ 30 by omega⟩) hS (fun H locs hP hS => ?_)
  refine W.widen (k := 3) (n := 18) (by omega) (by omega) ?_
  refine lv_pop hx hb dL_formula_73 rfl ?_
  refine lv_aload_n hx hb dL_formula_74 rfl (lv_at hl 2 rfl) ?_
  refine lv_bipush (v := 97) hx hb dL_formula_75 (by decide) ?_
  refine lv_iload_n hx hb dL_formula_77 rfl (lv_at hl 3 rfl) ?_
  refine lv_bipush (v := 7) hx hb dL_formula_78 (by decide) ?_
  refine lv_ishr hx hb dL_formula_80 ?_
  refine lv_iconst (v := 4) hx hb dL_formula_81 (by decide) ?_
  obtain ⟨u13, e14, hf⟩ := bd_some hf
  refine xci (gRunS (rest := [.int 97, .ref (E.2.1 0)]) (As := [.int ((v1 : Int32) >>> ((7 : Int32) &&& 31)), .int 4]) (k := 2) C0 (c_L_low l E u11.2.1 u11.2.2 ((v1 : Int32) >>> ((7 : Int32) &&& 31)) 4 e14) bw730 bw740 bw742 bw741 hd_L_low ⟨Nat.le_of_ble_eq_true rfl, Nat.le_of_ble_eq_true rfl⟩ hP (wX_D hD) hS rfl hl.1 rfl (Nat.le_of_ble_eq_true rfl) dL_formula_82 ⟨show 3 ≤ 5 by omega, show 18 ≤ 30 by omega⟩) hS (fun H locs hP hS => ?_)
  refine lv_iadd hx hb dL_formula_85 ?_
  refine lv_bipush (v := 44) hx hb dL_formula_86 (by decide) ?_
  refine lv_bipush (v := 98) hx hb dL_formula_88 (by decide) ?_
  refine lv_bipush (v := 41) hx hb dL_formula_90 (by decide) ?_
  obtain ⟨u15, e16, hf⟩ := bd_some hf
  refine gci (gRunW (rest := []) (As := [.ref (E.2.1 0), .int (97 + u13), .int 44, .int 98, .int 41]) (k := 5) C0 (c_L_types l hstk E u11.2.1 u11.2.2 (97 + u13) 44 98 41 e16) bw769 bw839 bw742 bw840 hd_L_types ⟨Nat.le_of_ble_eq_true rfl, Nat.le_of_ble_eq_true rfl⟩ hP (wX_D hD) hS rfl hl.1 rfl (Nat.le_of_ble_eq_true rfl) dL_formula_92 ⟨show 3 + 1 ≤ 5 by omega, show 18 + 6 ≤ 30 by omega⟩) hS (fun H locs hP hS => ?_)
  refine W.widen (k := 4) (n := 24) (by omega) (by omega) ?_
  refine lv_pop hx hb dL_formula_95 rfl ?_
  refine lv_aload_n hx hb dL_formula_96 rfl (lv_at hl 2 rfl) ?_
  obtain ⟨u17, e18, hf⟩ := bd_some hf
  refine xci (gRunV (rest := []) (As := []) (C := RX11) (k := 0) C0 (c_X11_fault l E u15.2.1 u15.2.2 e18) bw691 bw841 bw13 bw842 bw843 hd_X11_fault ⟨Nat.le_of_ble_eq_true rfl, Nat.le_of_ble_eq_true rfl⟩ hP (wX_D hD) hS (va_recv hK hP (ci := 11) rfl (gx_0 E u15.2.1 u15.2.2)) rfl hl.1 rfl (Nat.le_of_ble_eq_true rfl) dL_formula_97 ⟨show 4 ≤ 5 by omega, show 24 ≤ 30 by omega⟩) hS (fun H locs hP hS => ?_)
  refine lv_istore (lv' := [(6, .int u17.1), (5, .int u3), (4, .int u1), (0, .ref (E.2.1 0)), (1, .int v1), (2, .int v2), (3, .int v3)]) hx hb dL_formula_100 hl (by decide) rfl (fun ls hl => ?_)
  refine lv_aload_n hx hb dL_formula_102 rfl (lv_at hl 3 rfl) ?_
  refine lv_iload hx hb dL_formula_103 (lv_at hl 2 rfl) ?_
  refine lv_iconst (v := 0) hx hb dL_formula_105 (by decide) ?_
  obtain ⟨u19, e20, hf⟩ := bd_some hf
  refine xci (gRunV (rest := []) (As := [.int u1, .int 0]) (C := RX11) (k := 2) C0 (cr_X11_ofRelation l E u17.2.1 u17.2.2 u1 0 (rgt_some e20)) bw619 bw780 bw13 bw781 bw782 hd_X11_ofRelation ⟨Nat.le_of_ble_eq_true rfl, Nat.le_of_ble_eq_true rfl⟩ hP (wX_D hD) hS (va_recv hK hP (ci := 11) rfl (gx_0 E u17.2.1 u17.2.2)) rfl hl.1 rfl (Nat.le_of_ble_eq_true rfl) dL_formula_106 ⟨show 4 ≤ 5 by omega, show 24 ≤ 30 by omega⟩) hS (fun H locs hP hS => ?_)
  refine lv_iconst (v := 2) hx hb dL_formula_109 (by decide) ?_
  refine lv_icmp_ne (tgt := 128) hx hb dL_formula_110 (by decide) (fun c21 => ?_) (fun c21 => ?_)
  · replace hf := (if_neg c21).symm.trans hf
    refine lv_iconst (v := 0) hx hb dL_formula_128 (by decide) ?_
    exact B129 u17.2.1 u17.2.2 v2 v3 u17.1 0 _ _ _ hP hS (lv_sub hl [3, 5, 6, 0] rfl) hf
  · replace hf := (if_pos c21).symm.trans hf
    refine lv_aload_n hx hb dL_formula_113 rfl (lv_at hl 3 rfl) ?_
    refine lv_iload hx hb dL_formula_114 (lv_at hl 1 rfl) ?_
    refine lv_iconst (v := 0) hx hb dL_formula_116 (by decide) ?_
    obtain ⟨u22, e23, hf⟩ := bd_some hf
    refine xci (gRunV (rest := []) (As := [.int u3, .int 0]) (C := RX11) (k := 2) C0 (cr_X11_ofRelation l E u17.2.1 u17.2.2 u3 0 (rgt_some e23)) bw619 bw780 bw13 bw781 bw782 hd_X11_ofRelation ⟨Nat.le_of_ble_eq_true rfl, Nat.le_of_ble_eq_true rfl⟩ hP (wX_D hD) hS (va_recv hK hP (ci := 11) rfl (gx_0 E u17.2.1 u17.2.2)) rfl hl.1 rfl (Nat.le_of_ble_eq_true rfl) dL_formula_117 ⟨show 4 ≤ 5 by omega, show 24 ≤ 30 by omega⟩) hS (fun H locs hP hS => ?_)
    refine lv_iconst (v := 2) hx hb dL_formula_120 (by decide) ?_
    refine lv_icmp_ne (tgt := 128) hx hb dL_formula_121 (by decide) (fun c24 => ?_) (fun c24 => ?_)
    · replace hf := (if_neg c24).symm.trans hf
      refine lv_iconst (v := 0) hx hb dL_formula_128 (by decide) ?_
      exact B129 u17.2.1 u17.2.2 v2 v3 u17.1 0 _ _ _ hP hS (lv_sub hl [3, 5, 6, 0] rfl) hf
    · replace hf := (if_pos c24).symm.trans hf
      refine lv_iconst (v := 1) hx hb dL_formula_124 (by decide) ?_
      refine lv_goto (tgt := 129) hx hb dL_formula_125 (by decide) ?_
      exact B129 u17.2.1 u17.2.2 v2 v3 u17.1 1 _ _ _ hP hS (lv_sub hl [3, 5, 6, 0] rfl) hf
