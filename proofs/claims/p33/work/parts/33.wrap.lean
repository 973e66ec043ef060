/-! The law's methods that catch. -/
def f_L_relates (g : xG) (a : xA) (v1 : Int32) : Option (Int32 × xG × xA) := Option.bind (f_X11_relation g a v1) (fun u1 => Sum.elim (fun z3 => (if z3.1 = 2 then some ((-9), z3.2.1, z3.2.2) else (if z3.1 = 1 then some ((-7), z3.2.1, z3.2.2) else none))) (fun z3 => some (z3.1, z3.2.1, z3.2.2)) u1)
set_option maxRecDepth 100000 in
set_option maxHeartbeats 40000000 in
theorem c_L_relates (l : Launch) (hstk : l.stackTraces = false) (E : xE) (g : xG) (a : xA) (v1 : Int32) {res : Int32 × xG × xA} (hf : f_L_relates g a v1 = some res) : xV l E yL_relates (.codeWith yL_relates cL_relates 3 (some .int) [(0, 5, 6, 15), (0, 5, 10, 17)]) 7 111 1 6 [.ref (E.2.1 0), .int v1] (wX E g a) res.1 (wX E res.2.1 res.2.2) := by
  refine xVh_of hstk (by decide) rfl (Nat.le_of_ble_eq_true rfl) ?_
  intro p e s m below meth c A C0 htab hr hlocks hD hP hS ls hl
  obtain ⟨hx, hb, hml, hown, hw, hA, hK, hN, hT, hst, hz, hnc, -⟩ := id C0
  have hl : lv_has ls 3 [(0, .ref (E.2.1 0)), (1, .int v1)] := hl
  unfold f_L_relates at hf
  refine lv_aload_n hx hb dL_relates_0 rfl (lv_at hl 0 rfl) ?_
  refine lv_iload_n hx hb dL_relates_1 rfl (lv_at hl 1 rfl) ?_
  obtain ⟨u1, e2, hf⟩ := bd_some hf
  refine xtci (gRunT (rest := []) (As := [.int v1]) (C := RX11) (k := 1) C0 (c_X11_relation l hstk E g a v1 e2) bw599 bw736 bw13 bw737 bw738 hd_X11_relation ⟨Nat.le_of_ble_eq_true rfl, Nat.le_of_ble_eq_true rfl⟩ hP (wX_D hD) hS (va_recv hK hP (ci := 11) rfl (gx_0 E g a)) rfl hl.1 rfl (Nat.le_of_ble_eq_true rfl) dL_relates_2 ⟨show 0 + 1 ≤ 1 by omega, show 0 + 6 ≤ 6 by omega⟩) hS (fun z3 hz ce q9 H locs hP hS hce hcv hcl => ?_) (fun z3 hz H locs hP hS => ?_)
  · subst hz
    dsimp only [Sum.elim] at hf
    by_cases c4 : z3.1 = 2
    · replace hf := (if_pos c4).symm.trans hf
      rw [c4] at hcl
      refine vx_catch (name := "java/lang/IllegalStateException") (E := exN 2) hown [] { startPc := 0, endPc := 5, handlerPc := 6, catchType := 15 } [{ startPc := 0, endPc := 5, handlerPc := 10, catchType := 17 }] (by rw [htab]; rfl) (fun z hz => absurd hz List.not_mem_nil) (by decide) (by decide) (hw _ bw734) (hT.cast 2 (by decide) (by decide)) hce hcv hcl ?_
      refine lv_astore_n (lv' := [(2, .ref q9), (0, .ref (E.2.1 0)), (1, .int v1)]) hx hb dL_relates_6 rfl hl (by decide) rfl (fun ls hl => ?_)
      refine lv_bipush (v := (-9)) hx hb dL_relates_7 (by decide) ?_
      obtain rfl := Option.some.inj hf
      exact gi_ret hx hb hr hlocks hP hS rfl (by omega) (by omega) dL_relates_9
    · replace hf := (if_neg c4).symm.trans hf
      by_cases c5 : z3.1 = 1
      · replace hf := (if_pos c5).symm.trans hf
        rw [c5] at hcl
        refine vx_catch (name := "java/lang/IllegalArgumentException") (E := exN 1) hown [{ startPc := 0, endPc := 5, handlerPc := 6, catchType := 15 }] { startPc := 0, endPc := 5, handlerPc := 10, catchType := 17 } [] (by rw [htab]; rfl) (fun z hz => by
            simp only [List.mem_cons, List.not_mem_nil, or_false] at hz
            rcases hz with rfl
            · exact Or.inr ⟨by decide, _, hw _ bw734, hnc 1 2 (by decide) (by decide) (by decide) (by decide) (by decide)⟩) (by decide) (by decide) (hw _ bw735) (hT.cast 1 (by decide) (by decide)) hce hcv hcl ?_
        refine lv_astore_n (lv' := [(2, .ref q9), (0, .ref (E.2.1 0)), (1, .int v1)]) hx hb dL_relates_10 rfl hl (by decide) rfl (fun ls hl => ?_)
        refine lv_bipush (v := (-7)) hx hb dL_relates_11 (by decide) ?_
        obtain rfl := Option.some.inj hf
        exact gi_ret hx hb hr hlocks hP hS rfl (by omega) (by omega) dL_relates_13
      · replace hf := (if_neg c5).symm.trans hf
        cases hf
  · subst hz
    dsimp only [Sum.elim] at hf
    obtain rfl := Option.some.inj hf
    exact gi_ret hx hb hr hlocks hP hS rfl (by omega) (by omega) dL_relates_5
def f_L_takes (g : xG) (a : xA) (v1 : Int32) : Option (Int32 × xG × xA) := Option.bind (f_L_low g a v1 2) (fun u1 => (if u1 = 0 then Option.bind (f_L_low g a ((v1 : Int32) >>> ((1 : Int32) &&& 31)) 5) (fun u10 => Option.bind (f_X11_make g a u10) (fun u12 => Sum.elim (fun z14 => (if z14.1 = 2 then some ((-9), z14.2.1, z14.2.2) else none)) (fun z14 => some (z14.1, z14.2.1, z14.2.2)) u12)) else Option.bind (f_L_low g a ((v1 : Int32) >>> ((1 : Int32) &&& 31)) 3) (fun u4 => Option.bind (f_X11_operation g a (1 + u4)) (fun u6 => Sum.elim (fun z8 => (if z8.1 = 2 then some ((-9), z8.2.1, z8.2.2) else none)) (fun z8 => some (z8.1, z8.2.1, z8.2.2)) u6))))
set_option maxRecDepth 100000 in
set_option maxHeartbeats 40000000 in
theorem c_L_takes (l : Launch) (hstk : l.stackTraces = false) (E : xE) (g : xG) (a : xA) (v1 : Int32) {res : Int32 × xG × xA} (hf : f_L_takes g a v1 = some res) : xV l E yL_takes (.codeWith yL_takes cL_takes 3 (some .int) [(0, 35, 36, 15)]) 7 153 1 6 [.ref (E.2.1 0), .int v1] (wX E g a) res.1 (wX E res.2.1 res.2.2) := by
  refine xVh_of hstk (by decide) rfl (Nat.le_of_ble_eq_true rfl) ?_
  intro p e s m below meth c A C0 htab hr hlocks hD hP hS ls hl
  obtain ⟨hx, hb, hml, hown, hw, hA, hK, hN, hT, hst, hz, hnc, -⟩ := id C0
  have hl : lv_has ls 3 [(0, .ref (E.2.1 0)), (1, .int v1)] := hl
  unfold f_L_takes at hf
  refine lv_iload_n hx hb dL_takes_0 rfl (lv_at hl 1 rfl) ?_
  refine lv_iconst (v := 2) hx hb dL_takes_1 (by decide) ?_
  obtain ⟨u1, e2, hf⟩ := bd_some hf
  refine xci (gRunS (rest := []) (As := [.int v1, .int 2]) (k := 2) C0 (c_L_low l E g a v1 2 e2) bw730 bw740 bw742 bw741 hd_L_low ⟨Nat.le_of_ble_eq_true rfl, Nat.le_of_ble_eq_true rfl⟩ hP (wX_D hD) hS rfl hl.1 rfl (Nat.le_of_ble_eq_true rfl) dL_takes_2 ⟨show 0 ≤ 1 by omega, show 0 ≤ 6 by omega⟩) hS (fun H locs hP hS => ?_)
  refine lv_if_ne (tgt := 22) hx hb dL_takes_5 (by decide) (fun c3 => ?_) (fun c3 => ?_)
  · replace hf := (if_neg c3).symm.trans hf
    refine lv_aload_n hx hb dL_takes_22 rfl (lv_at hl 0 rfl) ?_
    refine lv_iconst (v := 1) hx hb dL_takes_23 (by decide) ?_
    refine lv_iload_n hx hb dL_takes_24 rfl (lv_at hl 1 rfl) ?_
    refine lv_iconst (v := 1) hx hb dL_takes_25 (by decide) ?_
    refine lv_ishr hx hb dL_takes_26 ?_
    refine lv_iconst (v := 3) hx hb dL_takes_27 (by decide) ?_
    obtain ⟨u4, e5, hf⟩ := bd_some hf
    refine xci (gRunS (rest := [.int 1, .ref (E.2.1 0)]) (As := [.int ((v1 : Int32) >>> ((1 : Int32) &&& 31)), .int 3]) (k := 2) C0 (c_L_low l E g a ((v1 : Int32) >>> ((1 : Int32) &&& 31)) 3 e5) bw730 bw740 bw742 bw741 hd_L_low ⟨Nat.le_of_ble_eq_true rfl, Nat.le_of_ble_eq_true rfl⟩ hP (wX_D hD) hS rfl hl.1 rfl (Nat.le_of_ble_eq_true rfl) dL_takes_28 ⟨show 0 ≤ 1 by omega, show 0 ≤ 6 by omega⟩) hS (fun H locs hP hS => ?_)
    refine lv_iadd hx hb dL_takes_31 ?_
    obtain ⟨u6, e7, hf⟩ := bd_some hf
    refine xtci (gRunT (rest := []) (As := [.int (1 + u4)]) (C := RX11) (k := 1) C0 (c_X11_operation l hstk E g a (1 + u4) e7) bw623 bw746 bw13 bw747 bw748 hd_X11_operation ⟨Nat.le_of_ble_eq_true rfl, Nat.le_of_ble_eq_true rfl⟩ hP (wX_D hD) hS (va_recv hK hP (ci := 11) rfl (gx_0 E g a)) rfl hl.1 rfl (Nat.le_of_ble_eq_true rfl) dL_takes_32 ⟨show 0 + 1 ≤ 1 by omega, show 0 + 6 ≤ 6 by omega⟩) hS (fun z8 hz ce q9 H locs hP hS hce hcv hcl => ?_) (fun z8 hz H locs hP hS => ?_)
    · subst hz
      dsimp only [Sum.elim] at hf
      by_cases c9 : z8.1 = 2
      · replace hf := (if_pos c9).symm.trans hf
        rw [c9] at hcl
        refine vx_catch (name := "java/lang/IllegalStateException") (E := exN 2) hown [] { startPc := 0, endPc := 35, handlerPc := 36, catchType := 15 } [] (by rw [htab]; rfl) (fun z hz => absurd hz List.not_mem_nil) (by decide) (by decide) (hw _ bw734) (hT.cast 2 (by decide) (by decide)) hce hcv hcl ?_
        refine lv_astore_n (lv' := [(2, .ref q9), (0, .ref (E.2.1 0)), (1, .int v1)]) hx hb dL_takes_36 rfl hl (by decide) rfl (fun ls hl => ?_)
        refine lv_bipush (v := (-9)) hx hb dL_takes_37 (by decide) ?_
        obtain rfl := Option.some.inj hf
        exact gi_ret hx hb hr hlocks hP hS rfl (by omega) (by omega) dL_takes_39
      · replace hf := (if_neg c9).symm.trans hf
        cases hf
    · subst hz
      dsimp only [Sum.elim] at hf
      obtain rfl := Option.some.inj hf
      exact gi_ret hx hb hr hlocks hP hS rfl (by omega) (by omega) dL_takes_35
  · replace hf := (if_pos c3).symm.trans hf
    refine lv_aload_n hx hb dL_takes_8 rfl (lv_at hl 0 rfl) ?_
    refine lv_iload_n hx hb dL_takes_9 rfl (lv_at hl 1 rfl) ?_
    refine lv_iconst (v := 1) hx hb dL_takes_10 (by decide) ?_
    refine lv_ishr hx hb dL_takes_11 ?_
    refine lv_iconst (v := 5) hx hb dL_takes_12 (by decide) ?_
    obtain ⟨u10, e11, hf⟩ := bd_some hf
    refine xci (gRunS (rest := [.ref (E.2.1 0)]) (As := [.int ((v1 : Int32) >>> ((1 : Int32) &&& 31)), .int 5]) (k := 2) C0 (c_L_low l E g a ((v1 : Int32) >>> ((1 : Int32) &&& 31)) 5 e11) bw730 bw740 bw742 bw741 hd_L_low ⟨Nat.le_of_ble_eq_true rfl, Nat.le_of_ble_eq_true rfl⟩ hP (wX_D hD) hS rfl hl.1 rfl (Nat.le_of_ble_eq_true rfl) dL_takes_13 ⟨show 0 ≤ 1 by omega, show 0 ≤ 6 by omega⟩) hS (fun H locs hP hS => ?_)
    obtain ⟨u12, e13, hf⟩ := bd_some hf
    refine xtci (gRunT (rest := []) (As := [.int u10]) (C := RX11) (k := 1) C0 (c_X11_make l hstk E g a u10 e13) bw627 bw743 bw13 bw744 bw745 hd_X11_make ⟨Nat.le_of_ble_eq_true rfl, Nat.le_of_ble_eq_true rfl⟩ hP (wX_D hD) hS (va_recv hK hP (ci := 11) rfl (gx_0 E g a)) rfl hl.1 rfl (Nat.le_of_ble_eq_true rfl) dL_takes_16 ⟨show 0 + 1 ≤ 1 by omega, show 0 + 6 ≤ 6 by omega⟩) hS (fun z14 hz ce q9 H locs hP hS hce hcv hcl => ?_) (fun z14 hz H locs hP hS => ?_)
    · subst hz
      dsimp only [Sum.elim] at hf
      by_cases c15 : z14.1 = 2
      · replace hf := (if_pos c15).symm.trans hf
        rw [c15] at hcl
        refine vx_catch (name := "java/lang/IllegalStateException") (E := exN 2) hown [] { startPc := 0, endPc := 35, handlerPc := 36, catchType := 15 } [] (by rw [htab]; rfl) (fun z hz => absurd hz List.not_mem_nil) (by decide) (by decide) (hw _ bw734) (hT.cast 2 (by decide) (by decide)) hce hcv hcl ?_
        refine lv_astore_n (lv' := [(2, .ref q9), (0, .ref (E.2.1 0)), (1, .int v1)]) hx hb dL_takes_36 rfl hl (by decide) rfl (fun ls hl => ?_)
        refine lv_bipush (v := (-9)) hx hb dL_takes_37 (by decide) ?_
        obtain rfl := Option.some.inj hf
        exact gi_ret hx hb hr hlocks hP hS rfl (by omega) (by omega) dL_takes_39
      · replace hf := (if_neg c15).symm.trans hf
        cases hf
    · subst hz
      dsimp only [Sum.elim] at hf
      refine lv_goto (tgt := 35) hx hb dL_takes_19 (by decide) ?_
      obtain rfl := Option.some.inj hf
      exact gi_ret hx hb hr hlocks hP hS rfl (by omega) (by omega) dL_takes_35
def f_L_puts (g : xG) (a : xA) (v1 : Int32) (v2 : Int32) (v3 : Int32) : Option (Int32 × xG × xA) := Option.bind (f_X11_tuple g a v1 v2 v3) (fun u1 => Sum.elim (fun z3 => (if z3.1 = 3 then some (0, g, z3.2) else none)) (fun z3 => ck (boB z3.1) (some (z3.1, g, z3.2))) u1)
set_option maxRecDepth 100000 in
set_option maxHeartbeats 40000000 in
theorem c_L_puts (l : Launch) (hstk : l.stackTraces = false) (E : xE) (g : xG) (a : xA) (v1 : Int32) (v2 : Int32) (v3 : Int32) {res : Int32 × xG × xA} (hf : f_L_puts g a v1 v2 v3 = some res) : xV l E yL_puts (.codeWith yL_puts cL_puts 5 (some .boolean) [(0, 7, 8, 35)]) 7 114 1 6 [.ref (E.2.1 0), .int v1, .int v2, .int v3] (wX E g a) res.1 (wX E res.2.1 res.2.2) := by
  refine xVh_of hstk (by decide) rfl (Nat.le_of_ble_eq_true rfl) ?_
  intro p e s m below meth c A C0 htab hr hlocks hD hP hS ls hl
  obtain ⟨hx, hb, hml, hown, hw, hA, hK, hN, hT, hst, hz, hnc, -⟩ := id C0
  have hl : lv_has ls 5 [(0, .ref (E.2.1 0)), (1, .int v1), (2, .int v2), (3, .int v3)] := hl
  unfold f_L_puts at hf
  refine lv_aload_n hx hb dL_puts_0 rfl (lv_at hl 0 rfl) ?_
  refine lv_iload_n hx hb dL_puts_1 rfl (lv_at hl 1 rfl) ?_
  refine lv_iload_n hx hb dL_puts_2 rfl (lv_at hl 2 rfl) ?_
  refine lv_iload_n hx hb dL_puts_3 rfl (lv_at hl 3 rfl) ?_
  obtain ⟨u1, e2, hf⟩ := bd_some hf
  refine xtci (gRunT (rest := []) (As := [.int v1, .int v2, .int v3]) (C := RX11) (k := 3) C0 (c_X11_tuple l hstk E g a v1 v2 v3 e2) bw617 bw751 bw13 bw752 bw753 hd_X11_tuple ⟨Nat.le_of_ble_eq_true rfl, Nat.le_of_ble_eq_true rfl⟩ hP (wX_D hD) hS (va_recv hK hP (ci := 11) rfl (gx_0 E g a)) rfl hl.1 rfl (Nat.le_of_ble_eq_true rfl) dL_puts_4 ⟨show 0 + 1 ≤ 1 by omega, show 0 + 6 ≤ 6 by omega⟩) hS (fun z3 hz ce q9 H locs hP hS hce hcv hcl => ?_) (fun z3 hz H locs hP hS => ?_)
  · subst hz
    dsimp only [Sum.elim] at hf
    by_cases c4 : z3.1 = 3
    · replace hf := (if_pos c4).symm.trans hf
      rw [c4] at hcl
      refine vx_catch (name := "java/lang/IndexOutOfBoundsException") (E := exN 3) hown [] { startPc := 0, endPc := 7, handlerPc := 8, catchType := 35 } [] (by rw [htab]; rfl) (fun z hz => absurd hz List.not_mem_nil) (by decide) (by decide) (hw _ bw750) (hT.cast 3 (by decide) (by decide)) hce hcv hcl ?_
      refine lv_astore (lv' := [(4, .ref q9), (0, .ref (E.2.1 0)), (1, .int v1), (2, .int v2), (3, .int v3)]) hx hb dL_puts_8 hl (by decide) rfl (fun ls hl => ?_)
      refine lv_iconst (v := 0) hx hb dL_puts_10 (by decide) ?_
      obtain rfl := Option.some.inj hf
      exact gz_ret hx hb hr hlocks hP hS rfl nz0 (by omega) (by omega) dL_puts_11
    · replace hf := (if_neg c4).symm.trans hf
      cases hf
  · subst hz
    dsimp only [Sum.elim] at hf
    obtain ⟨k5, hf⟩ := ck_some hf
    obtain rfl := Option.some.inj hf
    exact gz_ret hx hb hr hlocks hP hS rfl (boB_bo k5) (by omega) (by omega) dL_puts_7
def f_L_tells (g : xG) (a : xA) (v1 : Int32) (v2 : Int32) (v3 : Int32) : Option (Int32 × xG × xA) := Option.bind (f_X11_answers g a v1 v2 v3) (fun u1 => Sum.elim (fun z3 => (if z3.1 = 3 then some ((-5), g, z3.2) else (if z3.1 = 1 then some ((-7), g, z3.2) else none))) (fun z3 => some (z3.1, g, z3.2)) u1)
set_option maxRecDepth 100000 in
set_option maxHeartbeats 40000000 in
theorem c_L_tells (l : Launch) (hstk : l.stackTraces = false) (E : xE) (g : xG) (a : xA) (v1 : Int32) (v2 : Int32) (v3 : Int32) {res : Int32 × xG × xA} (hf : f_L_tells g a v1 v2 v3 = some res) : xV l E yL_tells (.codeWith yL_tells cL_tells 5 (some .int) [(0, 7, 8, 35), (0, 7, 13, 17)]) 7 115 1 6 [.ref (E.2.1 0), .int v1, .int v2, .int v3] (wX E g a) res.1 (wX E res.2.1 res.2.2) := by
  refine xVh_of hstk (by decide) rfl (Nat.le_of_ble_eq_true rfl) ?_
  intro p e s m below meth c A C0 htab hr hlocks hD hP hS ls hl
  obtain ⟨hx, hb, hml, hown, hw, hA, hK, hN, hT, hst, hz, hnc, -⟩ := id C0
  have hl : lv_has ls 5 [(0, .ref (E.2.1 0)), (1, .int v1), (2, .int v2), (3, .int v3)] := hl
  unfold f_L_tells at hf
  refine lv_aload_n hx hb dL_tells_0 rfl (lv_at hl 0 rfl) ?_
  refine lv_iload_n hx hb dL_tells_1 rfl (lv_at hl 1 rfl) ?_
  refine lv_iload_n hx hb dL_tells_2 rfl (lv_at hl 2 rfl) ?_
  refine lv_iload_n hx hb dL_tells_3 rfl (lv_at hl 3 rfl) ?_
  obtain ⟨u1, e2, hf⟩ := bd_some hf
  refine xtci (gRunT (rest := []) (As := [.int v1, .int v2, .int v3]) (C := RX11) (k := 3) C0 (c_X11_answers l hstk E g a v1 v2 v3 e2) bw632 bw755 bw13 bw756 bw757 hd_X11_answers ⟨Nat.le_of_ble_eq_true rfl, Nat.le_of_ble_eq_true rfl⟩ hP (wX_D hD) hS (va_recv hK hP (ci := 11) rfl (gx_0 E g a)) rfl hl.1 rfl (Nat.le_of_ble_eq_true rfl) dL_tells_4 ⟨show 0 + 1 ≤ 1 by omega, show 0 + 6 ≤ 6 by omega⟩) hS (fun z3 hz ce q9 H locs hP hS hce hcv hcl => ?_) (fun z3 hz H locs hP hS => ?_)
  · subst hz
    dsimp only [Sum.elim] at hf
    by_cases c4 : z3.1 = 3
    · replace hf := (if_pos c4).symm.trans hf
      rw [c4] at hcl
      refine vx_catch (name := "java/lang/IndexOutOfBoundsException") (E := exN 3) hown [] { startPc := 0, endPc := 7, handlerPc := 8, catchType := 35 } [{ startPc := 0, endPc := 7, handlerPc := 13, catchType := 17 }] (by rw [htab]; rfl) (fun z hz => absurd hz List.not_mem_nil) (by decide) (by decide) (hw _ bw750) (hT.cast 3 (by decide) (by decide)) hce hcv hcl ?_
      refine lv_astore (lv' := [(4, .ref q9), (0, .ref (E.2.1 0)), (1, .int v1), (2, .int v2), (3, .int v3)]) hx hb dL_tells_8 hl (by decide) rfl (fun ls hl => ?_)
      refine lv_bipush (v := (-5)) hx hb dL_tells_10 (by decide) ?_
      obtain rfl := Option.some.inj hf
      exact gi_ret hx hb hr hlocks hP hS rfl (by omega) (by omega) dL_tells_12
    · replace hf := (if_neg c4).symm.trans hf
      by_cases c5 : z3.1 = 1
      · replace hf := (if_pos c5).symm.trans hf
        rw [c5] at hcl
        refine vx_catch (name := "java/lang/IllegalArgumentException") (E := exN 1) hown [{ startPc := 0, endPc := 7, handlerPc := 8, catchType := 35 }] { startPc := 0, endPc := 7, handlerPc := 13, catchType := 17 } [] (by rw [htab]; rfl) (fun z hz => by
            simp only [List.mem_cons, List.not_mem_nil, or_false] at hz
            rcases hz with rfl
            · exact Or.inr ⟨by decide, _, hw _ bw750, hnc 1 3 (by decide) (by decide) (by decide) (by decide) (by decide)⟩) (by decide) (by decide) (hw _ bw735) (hT.cast 1 (by decide) (by decide)) hce hcv hcl ?_
        refine lv_astore (lv' := [(4, .ref q9), (0, .ref (E.2.1 0)), (1, .int v1), (2, .int v2), (3, .int v3)]) hx hb dL_tells_13 hl (by decide) rfl (fun ls hl => ?_)
        refine lv_bipush (v := (-7)) hx hb dL_tells_15 (by decide) ?_
        obtain rfl := Option.some.inj hf
        exact gi_ret hx hb hr hlocks hP hS rfl (by omega) (by omega) dL_tells_17
      · replace hf := (if_neg c5).symm.trans hf
        cases hf
  · subst hz
    dsimp only [Sum.elim] at hf
    obtain rfl := Option.some.inj hf
    exact gi_ret hx hb hr hlocks hP hS rfl (by omega) (by omega) dL_tells_7
def f_L_constrains (g : xG) (a : xA) (v1 : Int32) (v2 : Int32) (v3 : Int32) (v4 : Int32) : Option (Int32 × xG × xA) := Option.bind (f_X11_constrain g a v1 v2 v3 v4) (fun u1 => Sum.elim (fun z3 => (if z3.1 = 3 then some ((-5), z3.2.1, z3.2.2) else (if z3.1 = 2 then some ((-9), z3.2.1, z3.2.2) else none))) (fun z3 => some (z3.1, z3.2.1, z3.2.2)) u1)
set_option maxRecDepth 100000 in
set_option maxHeartbeats 40000000 in
theorem c_L_constrains (l : Launch) (hstk : l.stackTraces = false) (E : xE) (g : xG) (a : xA) (v1 : Int32) (v2 : Int32) (v3 : Int32) (v4 : Int32) {res : Int32 × xG × xA} (hf : f_L_constrains g a v1 v2 v3 v4 = some res) : xV l E yL_constrains (.codeWith yL_constrains cL_constrains 6 (some .int) [(0, 9, 10, 35), (0, 9, 15, 15)]) 7 115 1 6 [.ref (E.2.1 0), .int v1, .int v2, .int v3, .int v4] (wX E g a) res.1 (wX E res.2.1 res.2.2) := by
  refine xVh_of hstk (by decide) rfl (Nat.le_of_ble_eq_true rfl) ?_
  intro p e s m below meth c A C0 htab hr hlocks hD hP hS ls hl
  obtain ⟨hx, hb, hml, hown, hw, hA, hK, hN, hT, hst, hz, hnc, -⟩ := id C0
  have hl : lv_has ls 6 [(0, .ref (E.2.1 0)), (1, .int v1), (2, .int v2), (3, .int v3), (4, .int v4)] := hl
  unfold f_L_constrains at hf
  refine lv_aload_n hx hb dL_constrains_0 rfl (lv_at hl 0 rfl) ?_
  refine lv_iload_n hx hb dL_constrains_1 rfl (lv_at hl 1 rfl) ?_
  refine lv_iload_n hx hb dL_constrains_2 rfl (lv_at hl 2 rfl) ?_
  refine lv_iload_n hx hb dL_constrains_3 rfl (lv_at hl 3 rfl) ?_
  refine lv_iload hx hb dL_constrains_4 (lv_at hl 4 rfl) ?_
  obtain ⟨u1, e2, hf⟩ := bd_some hf
  refine xtci (gRunT (rest := []) (As := [.int v1, .int v2, .int v3, .int v4]) (C := RX11) (k := 4) C0 (c_X11_constrain l hstk E g a v1 v2 v3 v4 e2) bw707 bw759 bw13 bw760 bw761 hd_X11_constrain ⟨Nat.le_of_ble_eq_true rfl, Nat.le_of_ble_eq_true rfl⟩ hP (wX_D hD) hS (va_recv hK hP (ci := 11) rfl (gx_0 E g a)) rfl hl.1 rfl (Nat.le_of_ble_eq_true rfl) dL_constrains_6 ⟨show 0 + 1 ≤ 1 by omega, show 0 + 6 ≤ 6 by omega⟩) hS (fun z3 hz ce q9 H locs hP hS hce hcv hcl => ?_) (fun z3 hz H locs hP hS => ?_)
  · subst hz
    dsimp only [Sum.elim] at hf
    by_cases c4 : z3.1 = 3
    · replace hf := (if_pos c4).symm.trans hf
      rw [c4] at hcl
      refine vx_catch (name := "java/lang/IndexOutOfBoundsException") (E := exN 3) hown [] { startPc := 0, endPc := 9, handlerPc := 10, catchType := 35 } [{ startPc := 0, endPc := 9, handlerPc := 15, catchType := 15 }] (by rw [htab]; rfl) (fun z hz => absurd hz List.not_mem_nil) (by decide) (by decide) (hw _ bw750) (hT.cast 3 (by decide) (by decide)) hce hcv hcl ?_
      refine lv_astore (lv' := [(5, .ref q9), (0, .ref (E.2.1 0)), (1, .int v1), (2, .int v2), (3, .int v3), (4, .int v4)]) hx hb dL_constrains_10 hl (by decide) rfl (fun ls hl => ?_)
      refine lv_bipush (v := (-5)) hx hb dL_constrains_12 (by decide) ?_
      obtain rfl := Option.some.inj hf
      exact gi_ret hx hb hr hlocks hP hS rfl (by omega) (by omega) dL_constrains_14
    · replace hf := (if_neg c4).symm.trans hf
      by_cases c5 : z3.1 = 2
      · replace hf := (if_pos c5).symm.trans hf
        rw [c5] at hcl
        refine vx_catch (name := "java/lang/IllegalStateException") (E := exN 2) hown [{ startPc := 0, endPc := 9, handlerPc := 10, catchType := 35 }] { startPc := 0, endPc := 9, handlerPc := 15, catchType := 15 } [] (by rw [htab]; rfl) (fun z hz => by
            simp only [List.mem_cons, List.not_mem_nil, or_false] at hz
            rcases hz with rfl
            · exact Or.inr ⟨by decide, _, hw _ bw750, hnc 2 3 (by decide) (by decide) (by decide) (by decide) (by decide)⟩) (by decide) (by decide) (hw _ bw734) (hT.cast 2 (by decide) (by decide)) hce hcv hcl ?_
        refine lv_astore (lv' := [(5, .ref q9), (0, .ref (E.2.1 0)), (1, .int v1), (2, .int v2), (3, .int v3), (4, .int v4)]) hx hb dL_constrains_15 hl (by decide) rfl (fun ls hl => ?_)
        refine lv_bipush (v := (-9)) hx hb dL_constrains_17 (by decide) ?_
        obtain rfl := Option.some.inj hf
        exact gi_ret hx hb hr hlocks hP hS rfl (by omega) (by omega) dL_constrains_19
      · replace hf := (if_neg c5).symm.trans hf
        cases hf
  · subst hz
    dsimp only [Sum.elim] at hf
    obtain rfl := Option.some.inj hf
    exact gi_ret hx hb hr hlocks hP hS rfl (by omega) (by omega) dL_constrains_9
def f_L_types (g : xG) (a : xA) (v1 : Int32) (v2 : Int32) (v3 : Int32) (v4 : Int32) : Option (Int32 × xG × xA) := Option.bind (f_X11_type g a (((((v1 : Int32).toInt64) + (256 * ((v2 : Int32).toInt64))) + (65536 * ((v3 : Int32).toInt64))) + (16777216 * ((v4 : Int32).toInt64))) 4) (fun u1 => Sum.elim (fun z3 => (if z3.1 = 2 then some ((-9), z3.2.1, z3.2.2) else none)) (fun z3 => some (z3.1, z3.2.1, z3.2.2)) u1)
set_option maxRecDepth 100000 in
set_option maxHeartbeats 40000000 in
theorem c_L_types (l : Launch) (hstk : l.stackTraces = false) (E : xE) (g : xG) (a : xA) (v1 : Int32) (v2 : Int32) (v3 : Int32) (v4 : Int32) {res : Int32 × xG × xA} (hf : f_L_types g a v1 v2 v3 v4 = some res) : xV l E yL_types (.codeWith yL_types cL_types 6 (some .int) [(0, 29, 30, 15)]) 7 114 1 6 [.ref (E.2.1 0), .int v1, .int v2, .int v3, .int v4] (wX E g a) res.1 (wX E res.2.1 res.2.2) := by
  refine xVh_of hstk (by decide) rfl (Nat.le_of_ble_eq_true rfl) ?_
  intro p e s m below meth c A C0 htab hr hlocks hD hP hS ls hl
  obtain ⟨hx, hb, hml, hown, hw, hA, hK, hN, hT, hst, hz, hnc, -⟩ := id C0
  have hl : lv_has ls 6 [(0, .ref (E.2.1 0)), (1, .int v1), (2, .int v2), (3, .int v3), (4, .int v4)] := hl
  unfold f_L_types at hf
  refine lv_aload_n hx hb dL_types_0 rfl (lv_at hl 0 rfl) ?_
  refine lv_iload_n hx hb dL_types_1 rfl (lv_at hl 1 rfl) ?_
  refine lv_i2l (v := ((v1 : Int32).toInt64)) hx hb dL_types_2 rfl ?_
  refine lv_ldc2 hx hb hown (hw _ bw763) dL_types_3 ?_
  refine lv_iload_n hx hb dL_types_6 rfl (lv_at hl 2 rfl) ?_
  refine lv_i2l (v := ((v2 : Int32).toInt64)) hx hb dL_types_7 rfl ?_
  refine lv_lmul hx hb dL_types_8 ?_
  refine lv_ladd hx hb dL_types_9 ?_
  refine lv_ldc2 hx hb hown (hw _ bw764) dL_types_10 ?_
  refine lv_iload_n hx hb dL_types_13 rfl (lv_at hl 3 rfl) ?_
  refine lv_i2l (v := ((v3 : Int32).toInt64)) hx hb dL_types_14 rfl ?_
  refine lv_lmul hx hb dL_types_15 ?_
  refine lv_ladd hx hb dL_types_16 ?_
  refine lv_ldc2 hx hb hown (hw _ bw765) dL_types_17 ?_
  refine lv_iload hx hb dL_types_20 (lv_at hl 4 rfl) ?_
  refine lv_i2l (v := ((v4 : Int32).toInt64)) hx hb dL_types_22 rfl ?_
  refine lv_lmul hx hb dL_types_23 ?_
  refine lv_ladd hx hb dL_types_24 ?_
  refine lv_iconst (v := 4) hx hb dL_types_25 (by decide) ?_
  obtain ⟨u1, e2, hf⟩ := bd_some hf
  refine xtci (gRunT (rest := []) (As := [.long (((((v1 : Int32).toInt64) + (256 * ((v2 : Int32).toInt64))) + (65536 * ((v3 : Int32).toInt64))) + (16777216 * ((v4 : Int32).toInt64))), .int 4]) (C := RX11) (k := 2) C0 (c_X11_type l hstk E g a (((((v1 : Int32).toInt64) + (256 * ((v2 : Int32).toInt64))) + (65536 * ((v3 : Int32).toInt64))) + (16777216 * ((v4 : Int32).toInt64))) 4 e2) bw678 bw766 bw13 bw767 bw768 hd_X11_type ⟨Nat.le_of_ble_eq_true rfl, Nat.le_of_ble_eq_true rfl⟩ hP (wX_D hD) hS (va_recv hK hP (ci := 11) rfl (gx_0 E g a)) rfl hl.1 rfl (Nat.le_of_ble_eq_true rfl) dL_types_26 ⟨show 0 + 1 ≤ 1 by omega, show 0 + 6 ≤ 6 by omega⟩) hS (fun z3 hz ce q9 H locs hP hS hce hcv hcl => ?_) (fun z3 hz H locs hP hS => ?_)
  · subst hz
    dsimp only [Sum.elim] at hf
    by_cases c4 : z3.1 = 2
    · replace hf := (if_pos c4).symm.trans hf
      rw [c4] at hcl
      refine vx_catch (name := "java/lang/IllegalStateException") (E := exN 2) hown [] { startPc := 0, endPc := 29, handlerPc := 30, catchType := 15 } [] (by rw [htab]; rfl) (fun z hz => absurd hz List.not_mem_nil) (by decide) (by decide) (hw _ bw734) (hT.cast 2 (by decide) (by decide)) hce hcv hcl ?_
      refine lv_astore (lv' := [(5, .ref q9), (0, .ref (E.2.1 0)), (1, .int v1), (2, .int v2), (3, .int v3), (4, .int v4)]) hx hb dL_types_30 hl (by decide) rfl (fun ls hl => ?_)
      refine lv_bipush (v := (-9)) hx hb dL_types_32 (by decide) ?_
      obtain rfl := Option.some.inj hf
      exact gi_ret hx hb hr hlocks hP hS rfl (by omega) (by omega) dL_types_34
    · replace hf := (if_neg c4).symm.trans hf
      cases hf
  · subst hz
    dsimp only [Sum.elim] at hf
    obtain rfl := Option.some.inj hf
    exact gi_ret hx hb hr hlocks hP hS rfl (by omega) (by omega) dL_types_29
def f_L_ends (g : xG) (a : xA) (v1 : Int32) : Option (Int32 × xG × xA) := Option.bind (f_X11_type g a ((v1 : Int32).toInt64) 1) (fun u1 => Sum.elim (fun z3 => (if z3.1 = 2 then some ((-9), z3.2.1, z3.2.2) else none)) (fun z3 => some (z3.1, z3.2.1, z3.2.2)) u1)
set_option maxRecDepth 100000 in
set_option maxHeartbeats 40000000 in
theorem c_L_ends (l : Launch) (hstk : l.stackTraces = false) (E : xE) (g : xG) (a : xA) (v1 : Int32) {res : Int32 × xG × xA} (hf : f_L_ends g a v1 = some res) : xV l E yL_ends (.codeWith yL_ends cL_ends 3 (some .int) [(0, 7, 8, 15)]) 7 114 1 6 [.ref (E.2.1 0), .int v1] (wX E g a) res.1 (wX E res.2.1 res.2.2) := by
  refine xVh_of hstk (by decide) rfl (Nat.le_of_ble_eq_true rfl) ?_
  intro p e s m below meth c A C0 htab hr hlocks hD hP hS ls hl
  obtain ⟨hx, hb, hml, hown, hw, hA, hK, hN, hT, hst, hz, hnc, -⟩ := id C0
  have hl : lv_has ls 3 [(0, .ref (E.2.1 0)), (1, .int v1)] := hl
  unfold f_L_ends at hf
  refine lv_aload_n hx hb dL_ends_0 rfl (lv_at hl 0 rfl) ?_
  refine lv_iload_n hx hb dL_ends_1 rfl (lv_at hl 1 rfl) ?_
  refine lv_i2l (v := ((v1 : Int32).toInt64)) hx hb dL_ends_2 rfl ?_
  refine lv_iconst (v := 1) hx hb dL_ends_3 (by decide) ?_
  obtain ⟨u1, e2, hf⟩ := bd_some hf
  refine xtci (gRunT (rest := []) (As := [.long ((v1 : Int32).toInt64), .int 1]) (C := RX11) (k := 2) C0 (c_X11_type l hstk E g a ((v1 : Int32).toInt64) 1 e2) bw678 bw766 bw13 bw767 bw768 hd_X11_type ⟨Nat.le_of_ble_eq_true rfl, Nat.le_of_ble_eq_true rfl⟩ hP (wX_D hD) hS (va_recv hK hP (ci := 11) rfl (gx_0 E g a)) rfl hl.1 rfl (Nat.le_of_ble_eq_true rfl) dL_ends_4 ⟨show 0 + 1 ≤ 1 by omega, show 0 + 6 ≤ 6 by omega⟩) hS (fun z3 hz ce q9 H locs hP hS hce hcv hcl => ?_) (fun z3 hz H locs hP hS => ?_)
  · subst hz
    dsimp only [Sum.elim] at hf
    by_cases c4 : z3.1 = 2
    · replace hf := (if_pos c4).symm.trans hf
      rw [c4] at hcl
      refine vx_catch (name := "java/lang/IllegalStateException") (E := exN 2) hown [] { startPc := 0, endPc := 7, handlerPc := 8, catchType := 15 } [] (by rw [htab]; rfl) (fun z hz => absurd hz List.not_mem_nil) (by decide) (by decide) (hw _ bw734) (hT.cast 2 (by decide) (by decide)) hce hcv hcl ?_
      refine lv_astore_n (lv' := [(2, .ref q9), (0, .ref (E.2.1 0)), (1, .int v1)]) hx hb dL_ends_8 rfl hl (by decide) rfl (fun ls hl => ?_)
      refine lv_bipush (v := (-9)) hx hb dL_ends_9 (by decide) ?_
      obtain rfl := Option.some.inj hf
      exact gi_ret hx hb hr hlocks hP hS rfl (by omega) (by omega) dL_ends_11
    · replace hf := (if_neg c4).symm.trans hf
      cases hf
  · subst hz
    dsimp only [Sum.elim] at hf
    obtain rfl := Option.some.inj hf
    exact gi_ret hx hb hr hlocks hP hS rfl (by omega) (by omega) dL_ends_7
def f_L_defines (g : xG) (a : xA) : Option (Int32 × xG × xA) := Option.bind (f_X11_define g a) (fun u1 => Sum.elim (fun z3 => (if z3.1 = 2 then some ((-9), z3.2.1, z3.2.2) else (if z3.1 = 1 then some ((-7), z3.2.1, z3.2.2) else none))) (fun z3 => some (z3.1, z3.2.1, z3.2.2)) u1)
set_option maxRecDepth 100000 in
set_option maxHeartbeats 40000000 in
theorem c_L_defines (l : Launch) (hstk : l.stackTraces = false) (E : xE) (g : xG) (a : xA) {res : Int32 × xG × xA} (hf : f_L_defines g a = some res) : xV l E yL_defines (.codeWith yL_defines cL_defines 2 (some .int) [(0, 4, 5, 15), (0, 4, 9, 17)]) 16 368 1 6 [.ref (E.2.1 0)] (wX E g a) res.1 (wX E res.2.1 res.2.2) := by
  refine xVh_of hstk (by decide) rfl (Nat.le_of_ble_eq_true rfl) ?_
  intro p e s m below meth c A C0 htab hr hlocks hD hP hS ls hl
  obtain ⟨hx, hb, hml, hown, hw, hA, hK, hN, hT, hst, hz, hnc, -⟩ := id C0
  have hl : lv_has ls 2 [(0, .ref (E.2.1 0))] := hl
  unfold f_L_defines at hf
  refine lv_aload_n hx hb dL_defines_0 rfl (lv_at hl 0 rfl) ?_
  obtain ⟨u1, e2, hf⟩ := bd_some hf
  refine xtci (gRunT (rest := []) (As := []) (C := RX11) (k := 0) C0 (c_X11_define l hstk E g a e2) bw696 bw771 bw13 bw772 bw773 hd_X11_define ⟨Nat.le_of_ble_eq_true rfl, Nat.le_of_ble_eq_true rfl⟩ hP (wX_D hD) hS (va_recv hK hP (ci := 11) rfl (gx_0 E g a)) rfl hl.1 rfl (Nat.le_of_ble_eq_true rfl) dL_defines_1 ⟨show 0 + 1 ≤ 1 by omega, show 0 + 6 ≤ 6 by omega⟩) hS (fun z3 hz ce q9 H locs hP hS hce hcv hcl => ?_) (fun z3 hz H locs hP hS => ?_)
  · subst hz
    dsimp only [Sum.elim] at hf
    by_cases c4 : z3.1 = 2
    · replace hf := (if_pos c4).symm.trans hf
      rw [c4] at hcl
      refine vx_catch (name := "java/lang/IllegalStateException") (E := exN 2) hown [] { startPc := 0, endPc := 4, handlerPc := 5, catchType := 15 } [{ startPc := 0, endPc := 4, handlerPc := 9, catchType := 17 }] (by rw [htab]; rfl) (fun z hz => absurd hz List.not_mem_nil) (by decide) (by decide) (hw _ bw734) (hT.cast 2 (by decide) (by decide)) hce hcv hcl ?_
      refine lv_astore_n (lv' := [(1, .ref q9), (0, .ref (E.2.1 0))]) hx hb dL_defines_5 rfl hl (by decide) rfl (fun ls hl => ?_)
      refine lv_bipush (v := (-9)) hx hb dL_defines_6 (by decide) ?_
      obtain rfl := Option.some.inj hf
      exact gi_ret hx hb hr hlocks hP hS rfl (by omega) (by omega) dL_defines_8
    · replace hf := (if_neg c4).symm.trans hf
      by_cases c5 : z3.1 = 1
      · replace hf := (if_pos c5).symm.trans hf
        rw [c5] at hcl
        refine vx_catch (name := "java/lang/IllegalArgumentException") (E := exN 1) hown [{ startPc := 0, endPc := 4, handlerPc := 5, catchType := 15 }] { startPc := 0, endPc := 4, handlerPc := 9, catchType := 17 } [] (by rw [htab]; rfl) (fun z hz => by
            simp only [List.mem_cons, List.not_mem_nil, or_false] at hz
            rcases hz with rfl
            · exact Or.inr ⟨by decide, _, hw _ bw734, hnc 1 2 (by decide) (by decide) (by decide) (by decide) (by decide)⟩) (by decide) (by decide) (hw _ bw735) (hT.cast 1 (by decide) (by decide)) hce hcv hcl ?_
        refine lv_astore_n (lv' := [(1, .ref q9), (0, .ref (E.2.1 0))]) hx hb dL_defines_9 rfl hl (by decide) rfl (fun ls hl => ?_)
        refine lv_bipush (v := (-7)) hx hb dL_defines_10 (by decide) ?_
        obtain rfl := Option.some.inj hf
        exact gi_ret hx hb hr hlocks hP hS rfl (by omega) (by omega) dL_defines_12
      · replace hf := (if_neg c5).symm.trans hf
        cases hf
  · subst hz
    dsimp only [Sum.elim] at hf
    obtain rfl := Option.some.inj hf
    exact gi_ret hx hb hr hlocks hP hS rfl (by omega) (by omega) dL_defines_4
def f_L_surrounds (g : xG) (a : xA) (v1 : Int32) : Option (Int32 × xG × xA) := Option.bind (f_X11_around g a v1) (fun u1 => Sum.elim (fun z3 => (if z3.1 = 2 then some ((-9), z3.2.1, z3.2.2) else none)) (fun z3 => some (z3.1, z3.2.1, z3.2.2)) u1)
set_option maxRecDepth 100000 in
set_option maxHeartbeats 40000000 in
theorem c_L_surrounds (l : Launch) (hstk : l.stackTraces = false) (E : xE) (g : xG) (a : xA) (v1 : Int32) {res : Int32 × xG × xA} (hf : f_L_surrounds g a v1 = some res) : xV l E yL_surrounds (.codeWith yL_surrounds cL_surrounds 3 (some .int) [(0, 5, 6, 15)]) 38 876 1 6 [.ref (E.2.1 0), .int v1] (wX E g a) res.1 (wX E res.2.1 res.2.2) := by
  refine xVh_of hstk (by decide) rfl (Nat.le_of_ble_eq_true rfl) ?_
  intro p e s m below meth c A C0 htab hr hlocks hD hP hS ls hl
  obtain ⟨hx, hb, hml, hown, hw, hA, hK, hN, hT, hst, hz, hnc, -⟩ := id C0
  have hl : lv_has ls 3 [(0, .ref (E.2.1 0)), (1, .int v1)] := hl
  unfold f_L_surrounds at hf
  refine lv_aload_n hx hb dL_surrounds_0 rfl (lv_at hl 0 rfl) ?_
  refine lv_iload_n hx hb dL_surrounds_1 rfl (lv_at hl 1 rfl) ?_
  obtain ⟨u1, e2, hf⟩ := bd_some hf
  refine xtci (gRunT (rest := []) (As := [.int v1]) (C := RX11) (k := 1) C0 (c_X11_around l hstk E g a v1 e2) bw675 bw775 bw13 bw776 bw777 hd_X11_around ⟨Nat.le_of_ble_eq_true rfl, Nat.le_of_ble_eq_true rfl⟩ hP (wX_D hD) hS (va_recv hK hP (ci := 11) rfl (gx_0 E g a)) rfl hl.1 rfl (Nat.le_of_ble_eq_true rfl) dL_surrounds_2 ⟨show 0 + 1 ≤ 1 by omega, show 0 + 6 ≤ 6 by omega⟩) hS (fun z3 hz ce q9 H locs hP hS hce hcv hcl => ?_) (fun z3 hz H locs hP hS => ?_)
  · subst hz
    dsimp only [Sum.elim] at hf
    by_cases c4 : z3.1 = 2
    · replace hf := (if_pos c4).symm.trans hf
      rw [c4] at hcl
      refine vx_catch (name := "java/lang/IllegalStateException") (E := exN 2) hown [] { startPc := 0, endPc := 5, handlerPc := 6, catchType := 15 } [] (by rw [htab]; rfl) (fun z hz => absurd hz List.not_mem_nil) (by decide) (by decide) (hw _ bw734) (hT.cast 2 (by decide) (by decide)) hce hcv hcl ?_
      refine lv_astore_n (lv' := [(2, .ref q9), (0, .ref (E.2.1 0)), (1, .int v1)]) hx hb dL_surrounds_6 rfl hl (by decide) rfl (fun ls hl => ?_)
      refine lv_bipush (v := (-9)) hx hb dL_surrounds_7 (by decide) ?_
      obtain rfl := Option.some.inj hf
      exact gi_ret hx hb hr hlocks hP hS rfl (by omega) (by omega) dL_surrounds_9
    · replace hf := (if_neg c4).symm.trans hf
      cases hf
  · subst hz
    dsimp only [Sum.elim] at hf
    obtain rfl := Option.some.inj hf
    exact gi_ret hx hb hr hlocks hP hS rfl (by omega) (by omega) dL_surrounds_5
