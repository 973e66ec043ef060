/-! The methods of the law that catch nothing. -/
def f_L_low (g : xG) (a : xA) (v0 : Int32) (v1 : Int32) : Option (Int32) := ck (nzB v1) (some ((v0 &&& 2147483647) - (v0 &&& 2147483647) / v1 * v1))
set_option maxRecDepth 100000 in
set_option maxHeartbeats 40000000 in
theorem c_L_low (l : Launch) (E : xE) (g : xG) (a : xA) (v0 : Int32) (v1 : Int32) {res : Int32} (hf : f_L_low g a v0 v1 = some res) : xM l E yL_low cL_low 2 (some .int) 0 0 [.int v0, .int v1] (wX E g a) (xQi E res (wX E g a)) := by
  unfold f_L_low at hf
  refine xM_of (by decide) (Nat.le_of_ble_eq_true rfl) ?_
  intro p e s m below meth c A hx hb hr hml hts hown hlocks hA hD hP hK hN hS ls hl
  have hw : ∀ w ∈ BW, w.before _ s = true := fun w h => hts w (List.mem_cons_of_mem _ h)
  have C0 : xCtx E p m c cL_low 2 s _ RL A yL_low cL_low 2 (some .int) := ⟨hx, hb, hml, hown, hts, hA, hK, hN⟩
  have hl : lv_has ls 2 [(0, .int v0), (1, .int v1)] := hl
  refine lv_iload_n hx hb dL_low_0 rfl (lv_at hl 0 rfl) ?_
  refine lv_ldc hx hb hown (hw _ bw731) dL_low_1 ?_
  refine lv_iand hx hb dL_low_3 ?_
  refine lv_iload_n hx hb dL_low_4 rfl (lv_at hl 1 rfl) ?_
  obtain ⟨k1, hf⟩ := ck_some hf
  refine lv_irem hx hb dL_low_5 (nzB_nz k1) ?_
  exact xi_retS (fr := (fun r => r)) (fw := (fun r => wX E g a)) hx hb hr hlocks (Option.some.inj hf) hP hS dL_low_6
def f_L_bits_4 (g : xG) (a : xA) : Nat → Int32 → Int32 → Int32 → Option (Int32)
  | 0, _, _, _ => none
  | n + 1, x0, x1, x2 => (if 9 ≤ x2 then some x1 else f_L_bits_4 g a n x0 (x1 + (((x0 : Int32) >>> (x2 &&& 31)) &&& 1)) (x2 + 1))
theorem e_L_bits_4 (g : xG) (a : xA) (n : Nat) (x0 : Int32) (x1 : Int32) (x2 : Int32) : f_L_bits_4 g a (n + 1) x0 x1 x2 = (if 9 ≤ x2 then some x1 else f_L_bits_4 g a n x0 (x1 + (((x0 : Int32) >>> (x2 &&& 31)) &&& 1)) (x2 + 1)) := rfl
def f_L_bits (g : xG) (a : xA) (v0 : Int32) : Option (Int32) := f_L_bits_4 g a fu v0 0 0
set_option maxRecDepth 100000 in
set_option maxHeartbeats 40000000 in
theorem c_L_bits (l : Launch) (E : xE) (g : xG) (a : xA) (v0 : Int32) {res : Int32} (hf : f_L_bits g a v0 = some res) : xM l E yL_bits cL_bits 3 (some .int) 0 0 [.int v0] (wX E g a) (xQi E res (wX E g a)) := by
  unfold f_L_bits at hf
  refine xM_of (by decide) (Nat.le_of_ble_eq_true rfl) ?_
  intro p e s m below meth c A hx hb hr hml hts hown hlocks hA hD hP hK hN hS ls hl
  have hw : ∀ w ∈ BW, w.before _ s = true := fun w h => hts w (List.mem_cons_of_mem _ h)
  have C0 : xCtx E p m c cL_bits 3 s _ RL A yL_bits cL_bits 3 (some .int) := ⟨hx, hb, hml, hown, hts, hA, hK, hN⟩
  have hl : lv_has ls 3 [(0, .int v0)] := hl
  have B4 : ∀ (n : Nat) (x0 : Int32) (x1 : Int32) (x2 : Int32) (H : Heap) (locs : List Loc) (ls : Array Slot), va_P E.1 vwCl (wX E g a) H → va_S A s.heap H locs → lv_has ls 3 [(0, .int x0), (1, .int x1), (2, .int x2)] → f_L_bits_4 g a n x0 x1 x2 = some res → W p l e ({ frames := 0, cells := 0, slots := 0, locals := 0 }) s m ([.int v0] : List Value).toArray below meth c H locs 0 0 (MQ below ((xQi E res (wX E g a)) A) ([.int v0] : List Value).toArray s 0 0 A) (F0 m 4 ls []) := by
    intro n
    induction n with
    | zero => intro x0 x1 x2 H locs ls hP hS hl hf; exact absurd (show (none : Option (Int32)) = some res from hf) (by intro h; cases h)
    | succ n ih =>
      intro x0 x1 x2 H locs ls hP hS hl hf
      replace hf := (e_L_bits_4 g a n x0 x1 x2).symm.trans hf
      refine lv_iload_n hx hb dL_bits_4 rfl (lv_at hl 2 rfl) ?_
      refine lv_bipush (v := 9) hx hb dL_bits_5 (by decide) ?_
      refine lv_icmp_ge (tgt := 24) hx hb dL_bits_7 (by decide) (fun c1 => ?_) (fun c1 => ?_)
      · replace hf := (if_pos c1).symm.trans hf
        refine lv_iload_n hx hb dL_bits_24 rfl (lv_at hl 1 rfl) ?_
        exact xi_retS (fr := (fun r => r)) (fw := (fun r => wX E g a)) hx hb hr hlocks (Option.some.inj hf) hP hS dL_bits_25
      · replace hf := (if_neg c1).symm.trans hf
        refine lv_iload_n hx hb dL_bits_10 rfl (lv_at hl 1 rfl) ?_
        refine lv_iload_n hx hb dL_bits_11 rfl (lv_at hl 0 rfl) ?_
        refine lv_iload_n hx hb dL_bits_12 rfl (lv_at hl 2 rfl) ?_
        refine lv_ishr hx hb dL_bits_13 ?_
        refine lv_iconst (v := 1) hx hb dL_bits_14 (by decide) ?_
        refine lv_iand hx hb dL_bits_15 ?_
        refine lv_iadd hx hb dL_bits_16 ?_
        refine lv_istore_n (lv' := [(1, .int (x1 + (((x0 : Int32) >>> (x2 &&& 31)) &&& 1))), (0, .int x0), (2, .int x2)]) hx hb dL_bits_17 rfl hl (by decide) rfl (fun ls hl => ?_)
        refine lv_iinc (v := (x2 + 1)) (lv' := [(2, .int (x2 + 1)), (1, .int (x1 + (((x0 : Int32) >>> (x2 &&& 31)) &&& 1))), (0, .int x0)]) hx hb dL_bits_18 hl (k := 2) rfl rfl (by decide) rfl (fun ls hl => ?_)
        refine lv_goto (tgt := 4) hx hb dL_bits_21 (by decide) ?_
        exact ih x0 (x1 + (((x0 : Int32) >>> (x2 &&& 31)) &&& 1)) (x2 + 1) _ _ _ hP hS (lv_sub hl [2, 1, 0] rfl) hf
  refine lv_iconst (v := 0) hx hb dL_bits_0 (by decide) ?_
  refine lv_istore_n (lv' := [(1, .int 0), (0, .int v0)]) hx hb dL_bits_1 rfl hl (by decide) rfl (fun ls hl => ?_)
  refine lv_iconst (v := 0) hx hb dL_bits_2 (by decide) ?_
  refine lv_istore_n (lv' := [(2, .int 0), (1, .int 0), (0, .int v0)]) hx hb dL_bits_3 rfl hl (by decide) rfl (fun ls hl => ?_)
  exact B4 fu v0 0 0 _ _ _ hP hS (lv_sub hl [2, 1, 0] rfl) hf
def f_L_relations_123 (K5 : xG → xA → Int32 → Int32 → Int32 → Int32 → Option (Int32 × xG × xA)) (K48 : xG → xA → Int32 → Int32 → Int32 → Int32 → Int32 → Int32 → Option (Int32 × xG × xA)) (g : xG) (a : xA) (x1 : Int32) (x2 : Int32) (x4 : Int32) (x5 : Int32) (x6 : Int32) (x7 : Int32) (x8 : Int32) (s0 : Int32) (s1 : Int32) : Option (Int32 × xG × xA) := (if s1 = s0 then (if (x7 &&& x5) = x5 then (if x8 = (-1) then K48 g a x1 x2 1 x4 x5 (x6 + 1) else (if (((x5 : Int32) >>> (x8 &&& 31)) &&& 1) = 0 then (if (((x7 : Int32) >>> (x8 &&& 31)) &&& 1) = 1 then K48 g a x1 x2 1 x4 x5 (x6 + 1) else K48 g a x1 x2 0 x4 x5 (x6 + 1)) else K48 g a x1 x2 0 x4 x5 (x6 + 1))) else K48 g a x1 x2 0 x4 x5 (x6 + 1)) else K48 g a x1 x2 0 x4 x5 (x6 + 1))
def f_L_relations_112 (K5 : xG → xA → Int32 → Int32 → Int32 → Int32 → Option (Int32 × xG × xA)) (K48 : xG → xA → Int32 → Int32 → Int32 → Int32 → Int32 → Int32 → Option (Int32 × xG × xA)) (g : xG) (a : xA) (x1 : Int32) (x2 : Int32) (x4 : Int32) (x5 : Int32) (x6 : Int32) (x7 : Int32) (x8 : Int32) (s0 : Int32) : Option (Int32 × xG × xA) := (if x8 = (-1) then f_L_relations_123 K5 K48 g a x1 x2 x4 x5 x6 x7 x8 1 s0 else f_L_relations_123 K5 K48 g a x1 x2 x4 x5 x6 x7 x8 0 s0)
def f_L_relations_97 (K5 : xG → xA → Int32 → Int32 → Int32 → Int32 → Option (Int32 × xG × xA)) (K48 : xG → xA → Int32 → Int32 → Int32 → Int32 → Int32 → Int32 → Option (Int32 × xG × xA)) (g : xG) (a : xA) (x1 : Int32) (x2 : Int32) (x4 : Int32) (x5 : Int32) (x6 : Int32) (x7 : Int32) (x8 : Int32) (s0 : Int32) (s1 : Int32) : Option (Int32 × xG × xA) := (if s1 = s0 then (if x7 = x5 then f_L_relations_112 K5 K48 g a x1 x2 x4 x5 x6 x7 x8 1 else f_L_relations_112 K5 K48 g a x1 x2 x4 x5 x6 x7 x8 0) else K48 g a x1 x2 0 x4 x5 (x6 + 1))
def f_L_relations_48 (K5 : xG → xA → Int32 → Int32 → Int32 → Int32 → Option (Int32 × xG × xA)) : Nat → xG → xA → Int32 → Int32 → Int32 → Int32 → Int32 → Int32 → Option (Int32 × xG × xA)
  | 0, _, _, _, _, _, _, _, _ => none
  | n + 1, g, a, x1, x2, x3, x4, x5, x6 => (if x2 ≤ x6 then K5 g a x1 x2 x3 (x4 + 1) else (if x3 = 0 then K5 g a x1 x2 x3 (x4 + 1) else Option.bind (rgt (f_X11_closed g a x6 x4)) (fun u14 => Option.bind (rgt (f_X11_breaks u14.2.1 u14.2.2 x6 x4)) (fun u16 => Option.bind (rgt (f_X11_keeps u16.2.1 u16.2.2 x6 x4)) (fun u18 => (if u16.1 = (-1) then f_L_relations_97 K5 (f_L_relations_48 K5 n) u18.2.1 u18.2.2 x1 x2 x4 x5 x6 u14.1 u16.1 1 u18.1 else f_L_relations_97 K5 (f_L_relations_48 K5 n) u18.2.1 u18.2.2 x1 x2 x4 x5 x6 u14.1 u16.1 0 u18.1))))))
theorem e_L_relations_48 (K5 : xG → xA → Int32 → Int32 → Int32 → Int32 → Option (Int32 × xG × xA)) (n : Nat) (g : xG) (a : xA) (x1 : Int32) (x2 : Int32) (x3 : Int32) (x4 : Int32) (x5 : Int32) (x6 : Int32) : f_L_relations_48 K5 (n + 1) g a x1 x2 x3 x4 x5 x6 = (if x2 ≤ x6 then K5 g a x1 x2 x3 (x4 + 1) else (if x3 = 0 then K5 g a x1 x2 x3 (x4 + 1) else Option.bind (rgt (f_X11_closed g a x6 x4)) (fun u14 => Option.bind (rgt (f_X11_breaks u14.2.1 u14.2.2 x6 x4)) (fun u16 => Option.bind (rgt (f_X11_keeps u16.2.1 u16.2.2 x6 x4)) (fun u18 => (if u16.1 = (-1) then f_L_relations_97 K5 (f_L_relations_48 K5 n) u18.2.1 u18.2.2 x1 x2 x4 x5 x6 u14.1 u16.1 1 u18.1 else f_L_relations_97 K5 (f_L_relations_48 K5 n) u18.2.1 u18.2.2 x1 x2 x4 x5 x6 u14.1 u16.1 0 u18.1)))))) := rfl
def f_L_relations_5 : Nat → xG → xA → Int32 → Int32 → Int32 → Int32 → Option (Int32 × xG × xA)
  | 0, _, _, _, _, _, _ => none
  | n + 1, g, a, x1, x2, x3, x4 => (if x1 ≤ x4 then ck (boB x3) (some (x3, g, a)) else (if x3 = 0 then ck (boB x3) (some (x3, g, a)) else Option.bind (rgt (f_X11_ofRelation g a x4 1)) (fun u5 => Option.bind (rgt (f_X11_ofRelation g a x4 2)) (fun u7 => Option.bind (f_L_bits g a u5) (fun u9 => (if u7 = u9 then f_L_relations_48 (f_L_relations_5 n) fu g a x1 x2 1 x4 u5 0 else f_L_relations_48 (f_L_relations_5 n) fu g a x1 x2 0 x4 u5 0))))))
theorem e_L_relations_5 (n : Nat) (g : xG) (a : xA) (x1 : Int32) (x2 : Int32) (x3 : Int32) (x4 : Int32) : f_L_relations_5 (n + 1) g a x1 x2 x3 x4 = (if x1 ≤ x4 then ck (boB x3) (some (x3, g, a)) else (if x3 = 0 then ck (boB x3) (some (x3, g, a)) else Option.bind (rgt (f_X11_ofRelation g a x4 1)) (fun u5 => Option.bind (rgt (f_X11_ofRelation g a x4 2)) (fun u7 => Option.bind (f_L_bits g a u5) (fun u9 => (if u7 = u9 then f_L_relations_48 (f_L_relations_5 n) fu g a x1 x2 1 x4 u5 0 else f_L_relations_48 (f_L_relations_5 n) fu g a x1 x2 0 x4 u5 0)))))) := rfl
def f_L_relations (g : xG) (a : xA) (v1 : Int32) (v2 : Int32) : Option (Int32 × xG × xA) := f_L_relations_5 fu g a v1 v2 1 0
set_option maxRecDepth 100000 in
set_option maxHeartbeats 40000000 in
theorem c_L_relations (l : Launch) (E : xE) (g : xG) (a : xA) (v1 : Int32) (v2 : Int32) {res : Int32 × xG × xA} (hf : f_L_relations g a v1 v2 = some res) : xM l E yL_relations cL_relations 9 (some .boolean) 7 164 [.ref (E.2.1 0), .int v1, .int v2] (wX E g a) (xQi E res.1 (wX E res.2.1 res.2.2)) := by
  unfold f_L_relations at hf
  refine xM_of (by decide) (Nat.le_of_ble_eq_true rfl) ?_
  intro p e s m below meth c A hx hb hr hml hts hown hlocks hA hD hP hK hN hS ls hl
  have hw : ∀ w ∈ BW, w.before _ s = true := fun w h => hts w (List.mem_cons_of_mem _ h)
  have C0 : xCtx E p m c cL_relations 9 s _ RL A yL_relations cL_relations 9 (some .boolean) := ⟨hx, hb, hml, hown, hts, hA, hK, hN⟩
  have hl : lv_has ls 9 [(0, .ref (E.2.1 0)), (1, .int v1), (2, .int v2)] := hl
  have B123 : ∀ (K5 : xG → xA → Int32 → Int32 → Int32 → Int32 → Option (Int32 × xG × xA)) (hK5 : ∀ (g : xG) (a : xA) (x1 : Int32) (x2 : Int32) (x3 : Int32) (x4 : Int32) (H : Heap) (locs : List Loc) (ls : Array Slot), va_P E.1 vwCl (wX E g a) H → va_S A s.heap H locs → lv_has ls 9 [(0, .ref (E.2.1 0)), (1, .int x1), (2, .int x2), (3, .int x3), (4, .int x4)] → K5 g a x1 x2 x3 x4 = some res → W p l e ({ frames := 7, cells := 0, slots := 0, locals := 164 }) s m ([.ref (E.2.1 0), .int v1, .int v2] : List Value).toArray below meth c H locs 0 0 (MQ below ((xQi E res.1 (wX E res.2.1 res.2.2)) A) ([.ref (E.2.1 0), .int v1, .int v2] : List Value).toArray s 0 0 A) (F0 m 5 ls [])) (K48 : xG → xA → Int32 → Int32 → Int32 → Int32 → Int32 → Int32 → Option (Int32 × xG × xA)) (hK48 : ∀ (g : xG) (a : xA) (x1 : Int32) (x2 : Int32) (x3 : Int32) (x4 : Int32) (x5 : Int32) (x6 : Int32) (H : Heap) (locs : List Loc) (ls : Array Slot), va_P E.1 vwCl (wX E g a) H → va_S A s.heap H locs → lv_has ls 9 [(0, .ref (E.2.1 0)), (1, .int x1), (2, .int x2), (3, .int x3), (4, .int x4), (5, .int x5), (6, .int x6)] → K48 g a x1 x2 x3 x4 x5 x6 = some res → W p l e ({ frames := 7, cells := 0, slots := 0, locals := 164 }) s m ([.ref (E.2.1 0), .int v1, .int v2] : List Value).toArray below meth c H locs 0 0 (MQ below ((xQi E res.1 (wX E res.2.1 res.2.2)) A) ([.ref (E.2.1 0), .int v1, .int v2] : List Value).toArray s 0 0 A) (F0 m 48 ls [])) (g : xG) (a : xA) (x1 : Int32) (x2 : Int32) (x4 : Int32) (x5 : Int32) (x6 : Int32) (x7 : Int32) (x8 : Int32) (s0 : Int32) (s1 : Int32) (H : Heap) (locs : List Loc) (ls : Array Slot), va_P E.1 vwCl (wX E g a) H → va_S A s.heap H locs → lv_has ls 9 [(0, .ref (E.2.1 0)), (1, .int x1), (2, .int x2), (4, .int x4), (5, .int x5), (6, .int x6), (7, .int x7), (8, .int x8)] → f_L_relations_123 K5 K48 g a x1 x2 x4 x5 x6 x7 x8 s0 s1 = some res → W p l e ({ frames := 7, cells := 0, slots := 0, locals := 164 }) s m ([.ref (E.2.1 0), .int v1, .int v2] : List Value).toArray below meth c H locs 0 0 (MQ below ((xQi E res.1 (wX E res.2.1 res.2.2)) A) ([.ref (E.2.1 0), .int v1, .int v2] : List Value).toArray s 0 0 A) (F0 m 123 ls [.int s0, .int s1]) := by
    intro K5 hK5 K48 hK48 g a x1 x2 x4 x5 x6 x7 x8 s0 s1 H locs ls hP hS hl hf
    unfold f_L_relations_123 at hf
    refine lv_icmp_ne (tgt := 167) hx hb dL_relations_123 (by decide) (fun c24 => ?_) (fun c24 => ?_)
    · replace hf := (if_neg c24).symm.trans hf
      refine lv_iconst (v := 0) hx hb dL_relations_167 (by decide) ?_
      refine lv_istore_n (lv' := [(3, .int 0), (0, .ref (E.2.1 0)), (1, .int x1), (2, .int x2), (4, .int x4), (5, .int x5), (6, .int x6), (7, .int x7), (8, .int x8)]) hx hb dL_relations_168 rfl hl (by decide) rfl (fun ls hl => ?_)
      refine lv_iinc (v := (x6 + 1)) (lv' := [(6, .int (x6 + 1)), (3, .int 0), (0, .ref (E.2.1 0)), (1, .int x1), (2, .int x2), (4, .int x4), (5, .int x5), (7, .int x7), (8, .int x8)]) hx hb dL_relations_169 hl (k := 6) rfl rfl (by decide) rfl (fun ls hl => ?_)
      refine lv_goto (tgt := 48) hx hb dL_relations_172 (by decide) ?_
      exact hK48 g a x1 x2 0 x4 x5 (x6 + 1) _ _ _ hP hS (lv_sub hl [2, 3, 4, 1, 5, 6, 0] rfl) hf
    · replace hf := (if_pos c24).symm.trans hf
      refine lv_iload hx hb dL_relations_126 (lv_at hl 6 rfl) ?_
      refine lv_iload hx hb dL_relations_128 (lv_at hl 4 rfl) ?_
      refine lv_iand hx hb dL_relations_130 ?_
      refine lv_iload hx hb dL_relations_131 (lv_at hl 4 rfl) ?_
      refine lv_icmp_ne (tgt := 167) hx hb dL_relations_133 (by decide) (fun c25 => ?_) (fun c25 => ?_)
      · replace hf := (if_neg c25).symm.trans hf
        refine lv_iconst (v := 0) hx hb dL_relations_167 (by decide) ?_
        refine lv_istore_n (lv' := [(3, .int 0), (0, .ref (E.2.1 0)), (1, .int x1), (2, .int x2), (4, .int x4), (5, .int x5), (6, .int x6), (7, .int x7), (8, .int x8)]) hx hb dL_relations_168 rfl hl (by decide) rfl (fun ls hl => ?_)
        refine lv_iinc (v := (x6 + 1)) (lv' := [(6, .int (x6 + 1)), (3, .int 0), (0, .ref (E.2.1 0)), (1, .int x1), (2, .int x2), (4, .int x4), (5, .int x5), (7, .int x7), (8, .int x8)]) hx hb dL_relations_169 hl (k := 6) rfl rfl (by decide) rfl (fun ls hl => ?_)
        refine lv_goto (tgt := 48) hx hb dL_relations_172 (by decide) ?_
        exact hK48 g a x1 x2 0 x4 x5 (x6 + 1) _ _ _ hP hS (lv_sub hl [2, 3, 4, 1, 5, 6, 0] rfl) hf
      · replace hf := (if_pos c25).symm.trans hf
        refine lv_iload hx hb dL_relations_136 (lv_at hl 7 rfl) ?_
        refine lv_iconst (v := (-1)) hx hb dL_relations_138 (by decide) ?_
        refine lv_icmp_eq (tgt := 163) hx hb dL_relations_139 (by decide) (fun c26 => ?_) (fun c26 => ?_)
        · replace hf := (if_pos c26).symm.trans hf
          refine lv_iconst (v := 1) hx hb dL_relations_163 (by decide) ?_
          refine lv_goto (tgt := 168) hx hb dL_relations_164 (by decide) ?_
          refine lv_istore_n (lv' := [(3, .int 1), (0, .ref (E.2.1 0)), (1, .int x1), (2, .int x2), (4, .int x4), (5, .int x5), (6, .int x6), (7, .int x7), (8, .int x8)]) hx hb dL_relations_168 rfl hl (by decide) rfl (fun ls hl => ?_)
          refine lv_iinc (v := (x6 + 1)) (lv' := [(6, .int (x6 + 1)), (3, .int 1), (0, .ref (E.2.1 0)), (1, .int x1), (2, .int x2), (4, .int x4), (5, .int x5), (7, .int x7), (8, .int x8)]) hx hb dL_relations_169 hl (k := 6) rfl rfl (by decide) rfl (fun ls hl => ?_)
          refine lv_goto (tgt := 48) hx hb dL_relations_172 (by decide) ?_
          exact hK48 g a x1 x2 1 x4 x5 (x6 + 1) _ _ _ hP hS (lv_sub hl [2, 3, 4, 1, 5, 6, 0] rfl) hf
        · replace hf := (if_neg c26).symm.trans hf
          refine lv_iload hx hb dL_relations_142 (lv_at hl 4 rfl) ?_
          refine lv_iload hx hb dL_relations_144 (lv_at hl 7 rfl) ?_
          refine lv_ishr hx hb dL_relations_146 ?_
          refine lv_iconst (v := 1) hx hb dL_relations_147 (by decide) ?_
          refine lv_iand hx hb dL_relations_148 ?_
          refine lv_if_ne (tgt := 167) hx hb dL_relations_149 (by decide) (fun c27 => ?_) (fun c27 => ?_)
          · replace hf := (if_neg c27).symm.trans hf
            refine lv_iconst (v := 0) hx hb dL_relations_167 (by decide) ?_
            refine lv_istore_n (lv' := [(3, .int 0), (0, .ref (E.2.1 0)), (1, .int x1), (2, .int x2), (4, .int x4), (5, .int x5), (6, .int x6), (7, .int x7), (8, .int x8)]) hx hb dL_relations_168 rfl hl (by decide) rfl (fun ls hl => ?_)
            refine lv_iinc (v := (x6 + 1)) (lv' := [(6, .int (x6 + 1)), (3, .int 0), (0, .ref (E.2.1 0)), (1, .int x1), (2, .int x2), (4, .int x4), (5, .int x5), (7, .int x7), (8, .int x8)]) hx hb dL_relations_169 hl (k := 6) rfl rfl (by decide) rfl (fun ls hl => ?_)
            refine lv_goto (tgt := 48) hx hb dL_relations_172 (by decide) ?_
            exact hK48 g a x1 x2 0 x4 x5 (x6 + 1) _ _ _ hP hS (lv_sub hl [2, 3, 4, 1, 5, 6, 0] rfl) hf
          · replace hf := (if_pos c27).symm.trans hf
            refine lv_iload hx hb dL_relations_152 (lv_at hl 6 rfl) ?_
            refine lv_iload hx hb dL_relations_154 (lv_at hl 7 rfl) ?_
            refine lv_ishr hx hb dL_relations_156 ?_
            refine lv_iconst (v := 1) hx hb dL_relations_157 (by decide) ?_
            refine lv_iand hx hb dL_relations_158 ?_
            refine lv_iconst (v := 1) hx hb dL_relations_159 (by decide) ?_
            refine lv_icmp_ne (tgt := 167) hx hb dL_relations_160 (by decide) (fun c28 => ?_) (fun c28 => ?_)
            · replace hf := (if_neg c28).symm.trans hf
              refine lv_iconst (v := 0) hx hb dL_relations_167 (by decide) ?_
              refine lv_istore_n (lv' := [(3, .int 0), (0, .ref (E.2.1 0)), (1, .int x1), (2, .int x2), (4, .int x4), (5, .int x5), (6, .int x6), (7, .int x7), (8, .int x8)]) hx hb dL_relations_168 rfl hl (by decide) rfl (fun ls hl => ?_)
              refine lv_iinc (v := (x6 + 1)) (lv' := [(6, .int (x6 + 1)), (3, .int 0), (0, .ref (E.2.1 0)), (1, .int x1), (2, .int x2), (4, .int x4), (5, .int x5), (7, .int x7), (8, .int x8)]) hx hb dL_relations_169 hl (k := 6) rfl rfl (by decide) rfl (fun ls hl => ?_)
              refine lv_goto (tgt := 48) hx hb dL_relations_172 (by decide) ?_
              exact hK48 g a x1 x2 0 x4 x5 (x6 + 1) _ _ _ hP hS (lv_sub hl [2, 3, 4, 1, 5, 6, 0] rfl) hf
            · replace hf := (if_pos c28).symm.trans hf
              refine lv_iconst (v := 1) hx hb dL_relations_163 (by decide) ?_
              refine lv_goto (tgt := 168) hx hb dL_relations_164 (by decide) ?_
              refine lv_istore_n (lv' := [(3, .int 1), (0, .ref (E.2.1 0)), (1, .int x1), (2, .int x2), (4, .int x4), (5, .int x5), (6, .int x6), (7, .int x7), (8, .int x8)]) hx hb dL_relations_168 rfl hl (by decide) rfl (fun ls hl => ?_)
              refine lv_iinc (v := (x6 + 1)) (lv' := [(6, .int (x6 + 1)), (3, .int 1), (0, .ref (E.2.1 0)), (1, .int x1), (2, .int x2), (4, .int x4), (5, .int x5), (7, .int x7), (8, .int x8)]) hx hb dL_relations_169 hl (k := 6) rfl rfl (by decide) rfl (fun ls hl => ?_)
              refine lv_goto (tgt := 48) hx hb dL_relations_172 (by decide) ?_
              exact hK48 g a x1 x2 1 x4 x5 (x6 + 1) _ _ _ hP hS (lv_sub hl [2, 3, 4, 1, 5, 6, 0] rfl) hf
  have B112 : ∀ (K5 : xG → xA → Int32 → Int32 → Int32 → Int32 → Option (Int32 × xG × xA)) (hK5 : ∀ (g : xG) (a : xA) (x1 : Int32) (x2 : Int32) (x3 : Int32) (x4 : Int32) (H : Heap) (locs : List Loc) (ls : Array Slot), va_P E.1 vwCl (wX E g a) H → va_S A s.heap H locs → lv_has ls 9 [(0, .ref (E.2.1 0)), (1, .int x1), (2, .int x2), (3, .int x3), (4, .int x4)] → K5 g a x1 x2 x3 x4 = some res → W p l e ({ frames := 7, cells := 0, slots := 0, locals := 164 }) s m ([.ref (E.2.1 0), .int v1, .int v2] : List Value).toArray below meth c H locs 0 0 (MQ below ((xQi E res.1 (wX E res.2.1 res.2.2)) A) ([.ref (E.2.1 0), .int v1, .int v2] : List Value).toArray s 0 0 A) (F0 m 5 ls [])) (K48 : xG → xA → Int32 → Int32 → Int32 → Int32 → Int32 → Int32 → Option (Int32 × xG × xA)) (hK48 : ∀ (g : xG) (a : xA) (x1 : Int32) (x2 : Int32) (x3 : Int32) (x4 : Int32) (x5 : Int32) (x6 : Int32) (H : Heap) (locs : List Loc) (ls : Array Slot), va_P E.1 vwCl (wX E g a) H → va_S A s.heap H locs → lv_has ls 9 [(0, .ref (E.2.1 0)), (1, .int x1), (2, .int x2), (3, .int x3), (4, .int x4), (5, .int x5), (6, .int x6)] → K48 g a x1 x2 x3 x4 x5 x6 = some res → W p l e ({ frames := 7, cells := 0, slots := 0, locals := 164 }) s m ([.ref (E.2.1 0), .int v1, .int v2] : List Value).toArray below meth c H locs 0 0 (MQ below ((xQi E res.1 (wX E res.2.1 res.2.2)) A) ([.ref (E.2.1 0), .int v1, .int v2] : List Value).toArray s 0 0 A) (F0 m 48 ls [])) (g : xG) (a : xA) (x1 : Int32) (x2 : Int32) (x4 : Int32) (x5 : Int32) (x6 : Int32) (x7 : Int32) (x8 : Int32) (s0 : Int32) (H : Heap) (locs : List Loc) (ls : Array Slot), va_P E.1 vwCl (wX E g a) H → va_S A s.heap H locs → lv_has ls 9 [(0, .ref (E.2.1 0)), (1, .int x1), (2, .int x2), (4, .int x4), (5, .int x5), (6, .int x6), (7, .int x7), (8, .int x8)] → f_L_relations_112 K5 K48 g a x1 x2 x4 x5 x6 x7 x8 s0 = some res → W p l e ({ frames := 7, cells := 0, slots := 0, locals := 164 }) s m ([.ref (E.2.1 0), .int v1, .int v2] : List Value).toArray below meth c H locs 0 0 (MQ below ((xQi E res.1 (wX E res.2.1 res.2.2)) A) ([.ref (E.2.1 0), .int v1, .int v2] : List Value).toArray s 0 0 A) (F0 m 112 ls [.int s0]) := by
    intro K5 hK5 K48 hK48 g a x1 x2 x4 x5 x6 x7 x8 s0 H locs ls hP hS hl hf
    unfold f_L_relations_112 at hf
    refine lv_iload hx hb dL_relations_112 (lv_at hl 7 rfl) ?_
    refine lv_iconst (v := (-1)) hx hb dL_relations_114 (by decide) ?_
    refine lv_icmp_ne (tgt := 122) hx hb dL_relations_115 (by decide) (fun c23 => ?_) (fun c23 => ?_)
    · replace hf := (if_neg c23).symm.trans hf
      refine lv_iconst (v := 0) hx hb dL_relations_122 (by decide) ?_
      exact B123 K5 hK5 K48 hK48 g a x1 x2 x4 x5 x6 x7 x8 0 s0 _ _ _ hP hS (lv_sub hl [0, 1, 2, 3, 4, 5, 6, 7] rfl) hf
    · replace hf := (if_pos c23).symm.trans hf
      refine lv_iconst (v := 1) hx hb dL_relations_118 (by decide) ?_
      refine lv_goto (tgt := 123) hx hb dL_relations_119 (by decide) ?_
      exact B123 K5 hK5 K48 hK48 g a x1 x2 x4 x5 x6 x7 x8 1 s0 _ _ _ hP hS (lv_sub hl [0, 1, 2, 3, 4, 5, 6, 7] rfl) hf
  have B97 : ∀ (K5 : xG → xA → Int32 → Int32 → Int32 → Int32 → Option (Int32 × xG × xA)) (hK5 : ∀ (g : xG) (a : xA) (x1 : Int32) (x2 : Int32) (x3 : Int32) (x4 : Int32) (H : Heap) (locs : List Loc) (ls : Array Slot), va_P E.1 vwCl (wX E g a) H → va_S A s.heap H locs → lv_has ls 9 [(0, .ref (E.2.1 0)), (1, .int x1), (2, .int x2), (3, .int x3), (4, .int x4)] → K5 g a x1 x2 x3 x4 = some res → W p l e ({ frames := 7, cells := 0, slots := 0, locals := 164 }) s m ([.ref (E.2.1 0), .int v1, .int v2] : List Value).toArray below meth c H locs 0 0 (MQ below ((xQi E res.1 (wX E res.2.1 res.2.2)) A) ([.ref (E.2.1 0), .int v1, .int v2] : List Value).toArray s 0 0 A) (F0 m 5 ls [])) (K48 : xG → xA → Int32 → Int32 → Int32 → Int32 → Int32 → Int32 → Option (Int32 × xG × xA)) (hK48 : ∀ (g : xG) (a : xA) (x1 : Int32) (x2 : Int32) (x3 : Int32) (x4 : Int32) (x5 : Int32) (x6 : Int32) (H : Heap) (locs : List Loc) (ls : Array Slot), va_P E.1 vwCl (wX E g a) H → va_S A s.heap H locs → lv_has ls 9 [(0, .ref (E.2.1 0)), (1, .int x1), (2, .int x2), (3, .int x3), (4, .int x4), (5, .int x5), (6, .int x6)] → K48 g a x1 x2 x3 x4 x5 x6 = some res → W p l e ({ frames := 7, cells := 0, slots := 0, locals := 164 }) s m ([.ref (E.2.1 0), .int v1, .int v2] : List Value).toArray below meth c H locs 0 0 (MQ below ((xQi E res.1 (wX E res.2.1 res.2.2)) A) ([.ref (E.2.1 0), .int v1, .int v2] : List Value).toArray s 0 0 A) (F0 m 48 ls [])) (g : xG) (a : xA) (x1 : Int32) (x2 : Int32) (x4 : Int32) (x5 : Int32) (x6 : Int32) (x7 : Int32) (x8 : Int32) (s0 : Int32) (s1 : Int32) (H : Heap) (locs : List Loc) (ls : Array Slot), va_P E.1 vwCl (wX E g a) H → va_S A s.heap H locs → lv_has ls 9 [(0, .ref (E.2.1 0)), (1, .int x1), (2, .int x2), (4, .int x4), (5, .int x5), (6, .int x6), (7, .int x7), (8, .int x8)] → f_L_relations_97 K5 K48 g a x1 x2 x4 x5 x6 x7 x8 s0 s1 = some res → W p l e ({ frames := 7, cells := 0, slots := 0, locals := 164 }) s m ([.ref (E.2.1 0), .int v1, .int v2] : List Value).toArray below meth c H locs 0 0 (MQ below ((xQi E res.1 (wX E res.2.1 res.2.2)) A) ([.ref (E.2.1 0), .int v1, .int v2] : List Value).toArray s 0 0 A) (F0 m 97 ls [.int s0, .int s1]) := by
    intro K5 hK5 K48 hK48 g a x1 x2 x4 x5 x6 x7 x8 s0 s1 H locs ls hP hS hl hf
    unfold f_L_relations_97 at hf
    refine lv_icmp_ne (tgt := 167) hx hb dL_relations_97 (by decide) (fun c21 => ?_) (fun c21 => ?_)
    · replace hf := (if_neg c21).symm.trans hf
      refine lv_iconst (v := 0) hx hb dL_relations_167 (by decide) ?_
      refine lv_istore_n (lv' := [(3, .int 0), (0, .ref (E.2.1 0)), (1, .int x1), (2, .int x2), (4, .int x4), (5, .int x5), (6, .int x6), (7, .int x7), (8, .int x8)]) hx hb dL_relations_168 rfl hl (by decide) rfl (fun ls hl => ?_)
      refine lv_iinc (v := (x6 + 1)) (lv' := [(6, .int (x6 + 1)), (3, .int 0), (0, .ref (E.2.1 0)), (1, .int x1), (2, .int x2), (4, .int x4), (5, .int x5), (7, .int x7), (8, .int x8)]) hx hb dL_relations_169 hl (k := 6) rfl rfl (by decide) rfl (fun ls hl => ?_)
      refine lv_goto (tgt := 48) hx hb dL_relations_172 (by decide) ?_
      exact hK48 g a x1 x2 0 x4 x5 (x6 + 1) _ _ _ hP hS (lv_sub hl [2, 3, 4, 1, 5, 6, 0] rfl) hf
    · replace hf := (if_pos c21).symm.trans hf
      refine lv_iload hx hb dL_relations_100 (lv_at hl 6 rfl) ?_
      refine lv_iload hx hb dL_relations_102 (lv_at hl 4 rfl) ?_
      refine lv_icmp_ne (tgt := 111) hx hb dL_relations_104 (by decide) (fun c22 => ?_) (fun c22 => ?_)
      · replace hf := (if_neg c22).symm.trans hf
        refine lv_iconst (v := 0) hx hb dL_relations_111 (by decide) ?_
        exact B112 K5 hK5 K48 hK48 g a x1 x2 x4 x5 x6 x7 x8 0 _ _ _ hP hS (lv_sub hl [0, 1, 2, 3, 4, 5, 6, 7] rfl) hf
      · replace hf := (if_pos c22).symm.trans hf
        refine lv_iconst (v := 1) hx hb dL_relations_107 (by decide) ?_
        refine lv_goto (tgt := 112) hx hb dL_relations_108 (by decide) ?_
        exact B112 K5 hK5 K48 hK48 g a x1 x2 x4 x5 x6 x7 x8 1 _ _ _ hP hS (lv_sub hl [0, 1, 2, 3, 4, 5, 6, 7] rfl) hf
  have B48 : ∀ (K5 : xG → xA → Int32 → Int32 → Int32 → Int32 → Option (Int32 × xG × xA)) (hK5 : ∀ (g : xG) (a : xA) (x1 : Int32) (x2 : Int32) (x3 : Int32) (x4 : Int32) (H : Heap) (locs : List Loc) (ls : Array Slot), va_P E.1 vwCl (wX E g a) H → va_S A s.heap H locs → lv_has ls 9 [(0, .ref (E.2.1 0)), (1, .int x1), (2, .int x2), (3, .int x3), (4, .int x4)] → K5 g a x1 x2 x3 x4 = some res → W p l e ({ frames := 7, cells := 0, slots := 0, locals := 164 }) s m ([.ref (E.2.1 0), .int v1, .int v2] : List Value).toArray below meth c H locs 0 0 (MQ below ((xQi E res.1 (wX E res.2.1 res.2.2)) A) ([.ref (E.2.1 0), .int v1, .int v2] : List Value).toArray s 0 0 A) (F0 m 5 ls [])) (n : Nat) (g : xG) (a : xA) (x1 : Int32) (x2 : Int32) (x3 : Int32) (x4 : Int32) (x5 : Int32) (x6 : Int32) (H : Heap) (locs : List Loc) (ls : Array Slot), va_P E.1 vwCl (wX E g a) H → va_S A s.heap H locs → lv_has ls 9 [(0, .ref (E.2.1 0)), (1, .int x1), (2, .int x2), (3, .int x3), (4, .int x4), (5, .int x5), (6, .int x6)] → f_L_relations_48 K5 n g a x1 x2 x3 x4 x5 x6 = some res → W p l e ({ frames := 7, cells := 0, slots := 0, locals := 164 }) s m ([.ref (E.2.1 0), .int v1, .int v2] : List Value).toArray below meth c H locs 0 0 (MQ below ((xQi E res.1 (wX E res.2.1 res.2.2)) A) ([.ref (E.2.1 0), .int v1, .int v2] : List Value).toArray s 0 0 A) (F0 m 48 ls []) := by
    intro K5 hK5 n
    induction n with
    | zero => intro g a x1 x2 x3 x4 x5 x6 H locs ls hP hS hl hf; exact absurd (show (none : Option (Int32 × xG × xA)) = some res from hf) (by intro h; cases h)
    | succ n ih =>
      intro g a x1 x2 x3 x4 x5 x6 H locs ls hP hS hl hf
      replace hf := (e_L_relations_48 K5 n g a x1 x2 x3 x4 x5 x6).symm.trans hf
      refine lv_iload hx hb dL_relations_48 (lv_at hl 6 rfl) ?_
      refine lv_iload_n hx hb dL_relations_50 rfl (lv_at hl 2 rfl) ?_
      refine lv_icmp_ge (tgt := 175) hx hb dL_relations_51 (by decide) (fun c12 => ?_) (fun c12 => ?_)
      · replace hf := (if_pos c12).symm.trans hf
        refine lv_iinc (v := (x4 + 1)) (lv' := [(4, .int (x4 + 1)), (0, .ref (E.2.1 0)), (1, .int x1), (2, .int x2), (3, .int x3), (5, .int x5), (6, .int x6)]) hx hb dL_relations_175 hl (k := 4) rfl rfl (by decide) rfl (fun ls hl => ?_)
        refine lv_goto (tgt := 5) hx hb dL_relations_178 (by decide) ?_
        exact hK5 g a x1 x2 x3 (x4 + 1) _ _ _ hP hS (lv_sub hl [1, 2, 3, 4, 0] rfl) hf
      · replace hf := (if_neg c12).symm.trans hf
        refine lv_iload_n hx hb dL_relations_54 rfl (lv_at hl 3 rfl) ?_
        refine lv_if_eq (tgt := 175) hx hb dL_relations_55 (by decide) (fun c13 => ?_) (fun c13 => ?_)
        · replace hf := (if_pos c13).symm.trans hf
          refine lv_iinc (v := (x4 + 1)) (lv' := [(4, .int (x4 + 1)), (0, .ref (E.2.1 0)), (1, .int x1), (2, .int x2), (3, .int x3), (5, .int x5), (6, .int x6)]) hx hb dL_relations_175 hl (k := 4) rfl rfl (by decide) rfl (fun ls hl => ?_)
          refine lv_goto (tgt := 5) hx hb dL_relations_178 (by decide) ?_
          exact hK5 g a x1 x2 x3 (x4 + 1) _ _ _ hP hS (lv_sub hl [1, 2, 3, 4, 0] rfl) hf
        · replace hf := (if_neg c13).symm.trans hf
          refine lv_aload_n hx hb dL_relations_58 rfl (lv_at hl 0 rfl) ?_
          refine lv_iload hx hb dL_relations_59 (lv_at hl 6 rfl) ?_
          refine lv_iload hx hb dL_relations_61 (lv_at hl 4 rfl) ?_
          obtain ⟨u14, e15, hf⟩ := bd_some hf
          refine xci (xRunV (rest := []) (As := [.int x6, .int x4]) (C := RX11) (k := 2) C0 (cr_X11_closed l E g a x6 x4 (rgt_some e15)) bw642 bw785 bw13 bw786 bw787 hd_X11_closed ⟨Nat.le_of_ble_eq_true rfl, Nat.le_of_ble_eq_true rfl⟩ hP (wX_D hD) hS (va_recv hK hP (ci := 11) rfl (gx_0 E g a)) rfl hl.1 rfl (Nat.le_of_ble_eq_true rfl) dL_relations_63 ⟨Nat.zero_le _, Nat.zero_le _⟩) hS (fun H locs hP hS => ?_)
          refine lv_istore (lv' := [(7, .int u14.1), (0, .ref (E.2.1 0)), (1, .int x1), (2, .int x2), (3, .int x3), (4, .int x4), (5, .int x5), (6, .int x6)]) hx hb dL_relations_66 hl (by decide) rfl (fun ls hl => ?_)
          refine lv_aload_n hx hb dL_relations_68 rfl (lv_at hl 1 rfl) ?_
          refine lv_iload hx hb dL_relations_69 (lv_at hl 7 rfl) ?_
          refine lv_iload hx hb dL_relations_71 (lv_at hl 5 rfl) ?_
          obtain ⟨u16, e17, hf⟩ := bd_some hf
          refine xci (xRunV (rest := []) (As := [.int x6, .int x4]) (C := RX11) (k := 2) C0 (cr_X11_breaks l E u14.2.1 u14.2.2 x6 x4 (rgt_some e17)) bw638 bw788 bw13 bw789 bw790 hd_X11_breaks ⟨Nat.le_of_ble_eq_true rfl, Nat.le_of_ble_eq_true rfl⟩ hP (wX_D hD) hS (va_recv hK hP (ci := 11) rfl (gx_0 E u14.2.1 u14.2.2)) rfl hl.1 rfl (Nat.le_of_ble_eq_true rfl) dL_relations_73 ⟨Nat.zero_le _, Nat.zero_le _⟩) hS (fun H locs hP hS => ?_)
          refine lv_istore (lv' := [(8, .int u16.1), (7, .int u14.1), (0, .ref (E.2.1 0)), (1, .int x1), (2, .int x2), (3, .int x3), (4, .int x4), (5, .int x5), (6, .int x6)]) hx hb dL_relations_76 hl (by decide) rfl (fun ls hl => ?_)
          refine lv_aload_n hx hb dL_relations_78 rfl (lv_at hl 2 rfl) ?_
          refine lv_iload hx hb dL_relations_79 (lv_at hl 8 rfl) ?_
          refine lv_iload hx hb dL_relations_81 (lv_at hl 6 rfl) ?_
          obtain ⟨u18, e19, hf⟩ := bd_some hf
          refine xci (xRunV (rest := []) (As := [.int x6, .int x4]) (C := RX11) (k := 2) C0 (cr_X11_keeps l E u16.2.1 u16.2.2 x6 x4 (rgt_some e19)) bw634 bw791 bw13 bw792 bw793 hd_X11_keeps ⟨Nat.le_of_ble_eq_true rfl, Nat.le_of_ble_eq_true rfl⟩ hP (wX_D hD) hS (va_recv hK hP (ci := 11) rfl (gx_0 E u16.2.1 u16.2.2)) rfl hl.1 rfl (Nat.le_of_ble_eq_true rfl) dL_relations_83 ⟨Nat.zero_le _, Nat.zero_le _⟩) hS (fun H locs hP hS => ?_)
          refine lv_iload hx hb dL_relations_86 (lv_at hl 0 rfl) ?_
          refine lv_iconst (v := (-1)) hx hb dL_relations_88 (by decide) ?_
          refine lv_icmp_ne (tgt := 96) hx hb dL_relations_89 (by decide) (fun c20 => ?_) (fun c20 => ?_)
          · replace hf := (if_neg c20).symm.trans hf
            refine lv_iconst (v := 0) hx hb dL_relations_96 (by decide) ?_
            exact B97 K5 hK5 (f_L_relations_48 K5 n) ih u18.2.1 u18.2.2 x1 x2 x4 x5 x6 u14.1 u16.1 0 u18.1 _ _ _ hP hS (lv_sub hl [2, 3, 4, 6, 7, 8, 1, 0] rfl) hf
          · replace hf := (if_pos c20).symm.trans hf
            refine lv_iconst (v := 1) hx hb dL_relations_92 (by decide) ?_
            refine lv_goto (tgt := 97) hx hb dL_relations_93 (by decide) ?_
            exact B97 K5 hK5 (f_L_relations_48 K5 n) ih u18.2.1 u18.2.2 x1 x2 x4 x5 x6 u14.1 u16.1 1 u18.1 _ _ _ hP hS (lv_sub hl [2, 3, 4, 6, 7, 8, 1, 0] rfl) hf
  have B5 : ∀ (n : Nat) (g : xG) (a : xA) (x1 : Int32) (x2 : Int32) (x3 : Int32) (x4 : Int32) (H : Heap) (locs : List Loc) (ls : Array Slot), va_P E.1 vwCl (wX E g a) H → va_S A s.heap H locs → lv_has ls 9 [(0, .ref (E.2.1 0)), (1, .int x1), (2, .int x2), (3, .int x3), (4, .int x4)] → f_L_relations_5 n g a x1 x2 x3 x4 = some res → W p l e ({ frames := 7, cells := 0, slots := 0, locals := 164 }) s m ([.ref (E.2.1 0), .int v1, .int v2] : List Value).toArray below meth c H locs 0 0 (MQ below ((xQi E res.1 (wX E res.2.1 res.2.2)) A) ([.ref (E.2.1 0), .int v1, .int v2] : List Value).toArray s 0 0 A) (F0 m 5 ls []) := by
    intro n
    induction n with
    | zero => intro g a x1 x2 x3 x4 H locs ls hP hS hl hf; exact absurd (show (none : Option (Int32 × xG × xA)) = some res from hf) (by intro h; cases h)
    | succ n ih =>
      intro g a x1 x2 x3 x4 H locs ls hP hS hl hf
      replace hf := (e_L_relations_5 n g a x1 x2 x3 x4).symm.trans hf
      refine lv_iload hx hb dL_relations_5 (lv_at hl 4 rfl) ?_
      refine lv_iload_n hx hb dL_relations_7 rfl (lv_at hl 1 rfl) ?_
      refine lv_icmp_ge (tgt := 181) hx hb dL_relations_8 (by decide) (fun c1 => ?_) (fun c1 => ?_)
      · replace hf := (if_pos c1).symm.trans hf
        refine lv_iload_n hx hb dL_relations_181 rfl (lv_at hl 3 rfl) ?_
        obtain ⟨k2, hf⟩ := ck_some hf
        exact xz_retS (fr := (fun r => r.1)) (fw := (fun r => wX E r.2.1 r.2.2)) hx hb hr hlocks (Option.some.inj hf) (boB_bo k2) hP hS dL_relations_182
      · replace hf := (if_neg c1).symm.trans hf
        refine lv_iload_n hx hb dL_relations_11 rfl (lv_at hl 3 rfl) ?_
        refine lv_if_eq (tgt := 181) hx hb dL_relations_12 (by decide) (fun c3 => ?_) (fun c3 => ?_)
        · replace hf := (if_pos c3).symm.trans hf
          refine lv_iload_n hx hb dL_relations_181 rfl (lv_at hl 3 rfl) ?_
          obtain ⟨k4, hf⟩ := ck_some hf
          exact xz_retS (fr := (fun r => r.1)) (fw := (fun r => wX E r.2.1 r.2.2)) hx hb hr hlocks (Option.some.inj hf) (boB_bo k4) hP hS dL_relations_182
        · replace hf := (if_neg c3).symm.trans hf
          refine lv_aload_n hx hb dL_relations_15 rfl (lv_at hl 0 rfl) ?_
          refine lv_iload hx hb dL_relations_16 (lv_at hl 4 rfl) ?_
          refine lv_iconst (v := 1) hx hb dL_relations_18 (by decide) ?_
          obtain ⟨u5, e6, hf⟩ := bd_some hf
          refine xci (xRunV (rest := []) (As := [.int x4, .int 1]) (C := RX11) (k := 2) C0 (cr_X11_ofRelation l E g a x4 1 (rgt_some e6)) bw619 bw780 bw13 bw781 bw782 hd_X11_ofRelation ⟨Nat.le_of_ble_eq_true rfl, Nat.le_of_ble_eq_true rfl⟩ hP (wX_D hD) hS (va_recv hK hP (ci := 11) rfl (gx_0 E g a)) rfl hl.1 rfl (Nat.le_of_ble_eq_true rfl) dL_relations_19 ⟨Nat.zero_le _, Nat.zero_le _⟩) hS (fun H locs hP hS => ?_)
          refine lv_istore (lv' := [(5, .int u5), (0, .ref (E.2.1 0)), (1, .int x1), (2, .int x2), (3, .int x3), (4, .int x4)]) hx hb dL_relations_22 hl (by decide) rfl (fun ls hl => ?_)
          refine lv_aload_n hx hb dL_relations_24 rfl (lv_at hl 1 rfl) ?_
          refine lv_iload hx hb dL_relations_25 (lv_at hl 5 rfl) ?_
          refine lv_iconst (v := 2) hx hb dL_relations_27 (by decide) ?_
          obtain ⟨u7, e8, hf⟩ := bd_some hf
          refine xci (xRunV (rest := []) (As := [.int x4, .int 2]) (C := RX11) (k := 2) C0 (cr_X11_ofRelation l E g a x4 2 (rgt_some e8)) bw619 bw780 bw13 bw781 bw782 hd_X11_ofRelation ⟨Nat.le_of_ble_eq_true rfl, Nat.le_of_ble_eq_true rfl⟩ hP (wX_D hD) hS (va_recv hK hP (ci := 11) rfl (gx_0 E g a)) rfl hl.1 rfl (Nat.le_of_ble_eq_true rfl) dL_relations_28 ⟨Nat.zero_le _, Nat.zero_le _⟩) hS (fun H locs hP hS => ?_)
          refine lv_iload hx hb dL_relations_31 (lv_at hl 0 rfl) ?_
          obtain ⟨u9, e10, hf⟩ := bd_some hf
          refine xci (xRunS (rest := [.int u7]) (As := [.int u5]) (k := 1) C0 (c_L_bits l E g a u5 e10) bw779 bw783 bw742 bw784 hd_L_bits ⟨Nat.le_of_ble_eq_true rfl, Nat.le_of_ble_eq_true rfl⟩ hP (wX_D hD) hS rfl hl.1 rfl (Nat.le_of_ble_eq_true rfl) dL_relations_33 ⟨Nat.zero_le _, Nat.zero_le _⟩) hS (fun H locs hP hS => ?_)
          refine lv_icmp_ne (tgt := 43) hx hb dL_relations_36 (by decide) (fun c11 => ?_) (fun c11 => ?_)
          · replace hf := (if_neg c11).symm.trans hf
            refine lv_iconst (v := 0) hx hb dL_relations_43 (by decide) ?_
            refine lv_istore_n (lv' := [(3, .int 0), (5, .int u5), (0, .ref (E.2.1 0)), (1, .int x1), (2, .int x2), (4, .int x4)]) hx hb dL_relations_44 rfl hl (by decide) rfl (fun ls hl => ?_)
            refine lv_iconst (v := 0) hx hb dL_relations_45 (by decide) ?_
            refine lv_istore (lv' := [(6, .int 0), (3, .int 0), (5, .int u5), (0, .ref (E.2.1 0)), (1, .int x1), (2, .int x2), (4, .int x4)]) hx hb dL_relations_46 hl (by decide) rfl (fun ls hl => ?_)
            exact B48 (f_L_relations_5 n) ih fu g a x1 x2 0 x4 u5 0 _ _ _ hP hS (lv_sub hl [3, 4, 5, 1, 6, 2, 0] rfl) hf
          · replace hf := (if_pos c11).symm.trans hf
            refine lv_iconst (v := 1) hx hb dL_relations_39 (by decide) ?_
            refine lv_goto (tgt := 44) hx hb dL_relations_40 (by decide) ?_
            refine lv_istore_n (lv' := [(3, .int 1), (5, .int u5), (0, .ref (E.2.1 0)), (1, .int x1), (2, .int x2), (4, .int x4)]) hx hb dL_relations_44 rfl hl (by decide) rfl (fun ls hl => ?_)
            refine lv_iconst (v := 0) hx hb dL_relations_45 (by decide) ?_
            refine lv_istore (lv' := [(6, .int 0), (3, .int 1), (5, .int u5), (0, .ref (E.2.1 0)), (1, .int x1), (2, .int x2), (4, .int x4)]) hx hb dL_relations_46 hl (by decide) rfl (fun ls hl => ?_)
            exact B48 (f_L_relations_5 n) ih fu g a x1 x2 1 x4 u5 0 _ _ _ hP hS (lv_sub hl [3, 4, 5, 1, 6, 2, 0] rfl) hf
  refine lv_iconst (v := 1) hx hb dL_relations_0 (by decide) ?_
  refine lv_istore_n (lv' := [(3, .int 1), (0, .ref (E.2.1 0)), (1, .int v1), (2, .int v2)]) hx hb dL_relations_1 rfl hl (by decide) rfl (fun ls hl => ?_)
  refine lv_iconst (v := 0) hx hb dL_relations_2 (by decide) ?_
  refine lv_istore (lv' := [(4, .int 0), (3, .int 1), (0, .ref (E.2.1 0)), (1, .int v1), (2, .int v2)]) hx hb dL_relations_3 hl (by decide) rfl (fun ls hl => ?_)
  exact B5 fu g a v1 v2 1 0 _ _ _ hP hS (lv_sub hl [2, 3, 4, 1, 0] rfl) hf
def f_L_templates_52 (g : xG) (a : xA) (x1 : Int32) (s0 : Int32) (s1 : Int32) : Option (Int32 × xG × xA) := (if s1 = s0 then Option.bind (f_X11_monoid g a) (fun u13 => (if u13.1 < 1 then some (0, u13.2.1, u13.2.2) else Option.bind (rgt (f_X11_kept u13.2.1 u13.2.2 1)) (fun u16 => (if u16.1 < 2 then some (0, u16.2.1, u16.2.2) else Option.bind (rgt (f_X11_kept u16.2.1 u16.2.2 2)) (fun u19 => (if u19.1 < 2 then some (0, u19.2.1, u19.2.2) else Option.bind (rgt (f_X11_first u19.2.1 u19.2.2 3)) (fun u22 => (if (lg_cmp u22.1 (-1)) = 0 then some (1, u22.2.1, u22.2.2) else (if x1 = 3 then some (1, u22.2.1, u22.2.2) else Option.bind (rgt (f_X11_first u22.2.1 u22.2.2 3)) (fun u26 => (if (lg_cmp u26.1 150) = 0 then some (1, u26.2.1, u26.2.2) else some (0, u26.2.1, u26.2.2)))))))))))) else some (0, g, a))
def f_L_templates_35 (g : xG) (a : xA) (x1 : Int32) (s0 : Int32) : Option (Int32 × xG × xA) := Option.bind (rgt (f_X11_first g a 0)) (fun u9 => (if (lg_cmp u9.1 (-1)) = 0 then f_L_templates_52 u9.2.1 u9.2.2 x1 0 s0 else f_L_templates_52 u9.2.1 u9.2.2 x1 1 s0))
def f_L_templates (g : xG) (a : xA) (v1 : Int32) : Option (Int32 × xG × xA) := Option.bind (f_X11_ends g a) (fun u1 => Option.bind (f_X11_core u1.2.1 u1.2.2) (fun u3 => (if u1.1 < 1 then some (0, u3.2.1, u3.2.2) else (if u3.1 < 1 then some (0, u3.2.1, u3.2.2) else (if v1 < u3.1 then some (0, u3.2.1, u3.2.2) else (if u3.1 = 1 then f_L_templates_35 u3.2.1 u3.2.2 v1 1 else f_L_templates_35 u3.2.1 u3.2.2 v1 0))))))
set_option maxRecDepth 100000 in
set_option maxHeartbeats 40000000 in
theorem c_L_templates (l : Launch) (E : xE) (g : xG) (a : xA) (v1 : Int32) {res : Int32 × xG × xA} (hf : f_L_templates g a v1 = some res) : xM l E yL_templates cL_templates 4 (some .boolean) 38 873 [.ref (E.2.1 0), .int v1] (wX E g a) (xQi E res.1 (wX E res.2.1 res.2.2)) := by
  unfold f_L_templates at hf
  refine xM_of (by decide) (Nat.le_of_ble_eq_true rfl) ?_
  intro p e s m below meth c A hx hb hr hml hts hown hlocks hA hD hP hK hN hS ls hl
  have hw : ∀ w ∈ BW, w.before _ s = true := fun w h => hts w (List.mem_cons_of_mem _ h)
  have C0 : xCtx E p m c cL_templates 4 s _ RL A yL_templates cL_templates 4 (some .boolean) := ⟨hx, hb, hml, hown, hts, hA, hK, hN⟩
  have hl : lv_has ls 4 [(0, .ref (E.2.1 0)), (1, .int v1)] := hl
  have B52 : ∀ (g : xG) (a : xA) (x1 : Int32) (s0 : Int32) (s1 : Int32) (H : Heap) (locs : List Loc) (ls : Array Slot), va_P E.1 vwCl (wX E g a) H → va_S A s.heap H locs → lv_has ls 4 [(0, .ref (E.2.1 0)), (1, .int x1)] → f_L_templates_52 g a x1 s0 s1 = some res → W p l e ({ frames := 38, cells := 0, slots := 0, locals := 873 }) s m ([.ref (E.2.1 0), .int v1] : List Value).toArray below meth c H locs 0 0 (MQ below ((xQi E res.1 (wX E res.2.1 res.2.2)) A) ([.ref (E.2.1 0), .int v1] : List Value).toArray s 0 0 A) (F0 m 52 ls [.int s0, .int s1]) := by
    intro g a x1 s0 s1 H locs ls hP hS hl hf
    unfold f_L_templates_52 at hf
    refine lv_icmp_ne (tgt := 114) hx hb dL_templates_52 (by decide) (fun c12 => ?_) (fun c12 => ?_)
    · replace hf := (if_neg c12).symm.trans hf
      refine lv_iconst (v := 0) hx hb dL_templates_114 (by decide) ?_
      exact xz_retS (fr := (fun r => r.1)) (fw := (fun r => wX E r.2.1 r.2.2)) hx hb hr hlocks (Option.some.inj hf) nz0 hP hS dL_templates_115
    · replace hf := (if_pos c12).symm.trans hf
      refine lv_aload_n hx hb dL_templates_55 rfl (lv_at hl 0 rfl) ?_
      obtain ⟨u13, e14, hf⟩ := bd_some hf
      refine xci (xRunV (rest := []) (As := []) (C := RX11) (k := 0) C0 (c_X11_monoid l E g a e14) bw646 bw809 bw13 bw810 bw811 hd_X11_monoid ⟨Nat.le_of_ble_eq_true rfl, Nat.le_of_ble_eq_true rfl⟩ hP (wX_D hD) hS (va_recv hK hP (ci := 11) rfl (gx_0 E g a)) rfl hl.1 rfl (Nat.le_of_ble_eq_true rfl) dL_templates_56 ⟨Nat.zero_le _, Nat.zero_le _⟩) hS (fun H locs hP hS => ?_)
      refine lv_iconst (v := 1) hx hb dL_templates_59 (by decide) ?_
      refine lv_icmp_lt (tgt := 114) hx hb dL_templates_60 (by decide) (fun c15 => ?_) (fun c15 => ?_)
      · replace hf := (if_pos c15).symm.trans hf
        refine lv_iconst (v := 0) hx hb dL_templates_114 (by decide) ?_
        exact xz_retS (fr := (fun r => r.1)) (fw := (fun r => wX E r.2.1 r.2.2)) hx hb hr hlocks (Option.some.inj hf) nz0 hP hS dL_templates_115
      · replace hf := (if_neg c15).symm.trans hf
        refine lv_aload_n hx hb dL_templates_63 rfl (lv_at hl 0 rfl) ?_
        refine lv_iconst (v := 1) hx hb dL_templates_64 (by decide) ?_
        obtain ⟨u16, e17, hf⟩ := bd_some hf
        refine xci (xRunV (rest := []) (As := [.int 1]) (C := RX11) (k := 1) C0 (cr_X11_kept l E u13.2.1 u13.2.2 1 (rgt_some e17)) bw650 bw812 bw13 bw813 bw814 hd_X11_kept ⟨Nat.le_of_ble_eq_true rfl, Nat.le_of_ble_eq_true rfl⟩ hP (wX_D hD) hS (va_recv hK hP (ci := 11) rfl (gx_0 E u13.2.1 u13.2.2)) rfl hl.1 rfl (Nat.le_of_ble_eq_true rfl) dL_templates_65 ⟨Nat.zero_le _, Nat.zero_le _⟩) hS (fun H locs hP hS => ?_)
        refine lv_iconst (v := 2) hx hb dL_templates_68 (by decide) ?_
        refine lv_icmp_lt (tgt := 114) hx hb dL_templates_69 (by decide) (fun c18 => ?_) (fun c18 => ?_)
        · replace hf := (if_pos c18).symm.trans hf
          refine lv_iconst (v := 0) hx hb dL_templates_114 (by decide) ?_
          exact xz_retS (fr := (fun r => r.1)) (fw := (fun r => wX E r.2.1 r.2.2)) hx hb hr hlocks (Option.some.inj hf) nz0 hP hS dL_templates_115
        · replace hf := (if_neg c18).symm.trans hf
          refine lv_aload_n hx hb dL_templates_72 rfl (lv_at hl 0 rfl) ?_
          refine lv_iconst (v := 2) hx hb dL_templates_73 (by decide) ?_
          obtain ⟨u19, e20, hf⟩ := bd_some hf
          refine xci (xRunV (rest := []) (As := [.int 2]) (C := RX11) (k := 1) C0 (cr_X11_kept l E u16.2.1 u16.2.2 2 (rgt_some e20)) bw650 bw812 bw13 bw813 bw814 hd_X11_kept ⟨Nat.le_of_ble_eq_true rfl, Nat.le_of_ble_eq_true rfl⟩ hP (wX_D hD) hS (va_recv hK hP (ci := 11) rfl (gx_0 E u16.2.1 u16.2.2)) rfl hl.1 rfl (Nat.le_of_ble_eq_true rfl) dL_templates_74 ⟨Nat.zero_le _, Nat.zero_le _⟩) hS (fun H locs hP hS => ?_)
          refine lv_iconst (v := 2) hx hb dL_templates_77 (by decide) ?_
          refine lv_icmp_lt (tgt := 114) hx hb dL_templates_78 (by decide) (fun c21 => ?_) (fun c21 => ?_)
          · replace hf := (if_pos c21).symm.trans hf
            refine lv_iconst (v := 0) hx hb dL_templates_114 (by decide) ?_
            exact xz_retS (fr := (fun r => r.1)) (fw := (fun r => wX E r.2.1 r.2.2)) hx hb hr hlocks (Option.some.inj hf) nz0 hP hS dL_templates_115
          · replace hf := (if_neg c21).symm.trans hf
            refine lv_aload_n hx hb dL_templates_81 rfl (lv_at hl 0 rfl) ?_
            refine lv_iconst (v := 3) hx hb dL_templates_82 (by decide) ?_
            obtain ⟨u22, e23, hf⟩ := bd_some hf
            refine xcl (xRunV (rest := []) (As := [.int 3]) (C := RX11) (k := 1) C0 (cr_X11_first l E u19.2.1 u19.2.2 3 (rgt_some e23)) bw663 bw806 bw13 bw807 bw808 hd_X11_first ⟨Nat.le_of_ble_eq_true rfl, Nat.le_of_ble_eq_true rfl⟩ hP (wX_D hD) hS (va_recv hK hP (ci := 11) rfl (gx_0 E u19.2.1 u19.2.2)) rfl hl.1 rfl (Nat.le_of_ble_eq_true rfl) dL_templates_83 ⟨Nat.zero_le _, Nat.zero_le _⟩) hS (fun H locs hP hS => ?_)
            refine lv_ldc2 hx hb hown (hw _ bw798) dL_templates_86 ?_
            refine W.lcmp hx hb dL_templates_89 ?_
            refine lv_if_eq (tgt := 110) hx hb dL_templates_90 (by decide) (fun c24 => ?_) (fun c24 => ?_)
            · replace hf := (if_pos c24).symm.trans hf
              refine lv_iconst (v := 1) hx hb dL_templates_110 (by decide) ?_
              refine lv_goto (tgt := 115) hx hb dL_templates_111 (by decide) ?_
              exact xz_retS (fr := (fun r => r.1)) (fw := (fun r => wX E r.2.1 r.2.2)) hx hb hr hlocks (Option.some.inj hf) nz1 hP hS dL_templates_115
            · replace hf := (if_neg c24).symm.trans hf
              refine lv_iload_n hx hb dL_templates_93 rfl (lv_at hl 1 rfl) ?_
              refine lv_iconst (v := 3) hx hb dL_templates_94 (by decide) ?_
              refine lv_icmp_eq (tgt := 110) hx hb dL_templates_95 (by decide) (fun c25 => ?_) (fun c25 => ?_)
              · replace hf := (if_pos c25).symm.trans hf
                refine lv_iconst (v := 1) hx hb dL_templates_110 (by decide) ?_
                refine lv_goto (tgt := 115) hx hb dL_templates_111 (by decide) ?_
                exact xz_retS (fr := (fun r => r.1)) (fw := (fun r => wX E r.2.1 r.2.2)) hx hb hr hlocks (Option.some.inj hf) nz1 hP hS dL_templates_115
              · replace hf := (if_neg c25).symm.trans hf
                refine lv_aload_n hx hb dL_templates_98 rfl (lv_at hl 0 rfl) ?_
                refine lv_iconst (v := 3) hx hb dL_templates_99 (by decide) ?_
                obtain ⟨u26, e27, hf⟩ := bd_some hf
                refine xcl (xRunV (rest := []) (As := [.int 3]) (C := RX11) (k := 1) C0 (cr_X11_first l E u22.2.1 u22.2.2 3 (rgt_some e27)) bw663 bw806 bw13 bw807 bw808 hd_X11_first ⟨Nat.le_of_ble_eq_true rfl, Nat.le_of_ble_eq_true rfl⟩ hP (wX_D hD) hS (va_recv hK hP (ci := 11) rfl (gx_0 E u22.2.1 u22.2.2)) rfl hl.1 rfl (Nat.le_of_ble_eq_true rfl) dL_templates_100 ⟨Nat.zero_le _, Nat.zero_le _⟩) hS (fun H locs hP hS => ?_)
                refine lv_ldc2 hx hb hown (hw _ bw799) dL_templates_103 ?_
                refine W.lcmp hx hb dL_templates_106 ?_
                refine lv_if_ne (tgt := 114) hx hb dL_templates_107 (by decide) (fun c28 => ?_) (fun c28 => ?_)
                · replace hf := (if_neg c28).symm.trans hf
                  refine lv_iconst (v := 0) hx hb dL_templates_114 (by decide) ?_
                  exact xz_retS (fr := (fun r => r.1)) (fw := (fun r => wX E r.2.1 r.2.2)) hx hb hr hlocks (Option.some.inj hf) nz0 hP hS dL_templates_115
                · replace hf := (if_pos c28).symm.trans hf
                  refine lv_iconst (v := 1) hx hb dL_templates_110 (by decide) ?_
                  refine lv_goto (tgt := 115) hx hb dL_templates_111 (by decide) ?_
                  exact xz_retS (fr := (fun r => r.1)) (fw := (fun r => wX E r.2.1 r.2.2)) hx hb hr hlocks (Option.some.inj hf) nz1 hP hS dL_templates_115
  have B35 : ∀ (g : xG) (a : xA) (x1 : Int32) (s0 : Int32) (H : Heap) (locs : List Loc) (ls : Array Slot), va_P E.1 vwCl (wX E g a) H → va_S A s.heap H locs → lv_has ls 4 [(0, .ref (E.2.1 0)), (1, .int x1)] → f_L_templates_35 g a x1 s0 = some res → W p l e ({ frames := 38, cells := 0, slots := 0, locals := 873 }) s m ([.ref (E.2.1 0), .int v1] : List Value).toArray below meth c H locs 0 0 (MQ below ((xQi E res.1 (wX E res.2.1 res.2.2)) A) ([.ref (E.2.1 0), .int v1] : List Value).toArray s 0 0 A) (F0 m 35 ls [.int s0]) := by
    intro g a x1 s0 H locs ls hP hS hl hf
    unfold f_L_templates_35 at hf
    refine lv_aload_n hx hb dL_templates_35 rfl (lv_at hl 0 rfl) ?_
    refine lv_iconst (v := 0) hx hb dL_templates_36 (by decide) ?_
    obtain ⟨u9, e10, hf⟩ := bd_some hf
    refine xcl (xRunV (rest := [.int s0]) (As := [.int 0]) (C := RX11) (k := 1) C0 (cr_X11_first l E g a 0 (rgt_some e10)) bw663 bw806 bw13 bw807 bw808 hd_X11_first ⟨Nat.le_of_ble_eq_true rfl, Nat.le_of_ble_eq_true rfl⟩ hP (wX_D hD) hS (va_recv hK hP (ci := 11) rfl (gx_0 E g a)) rfl hl.1 rfl (Nat.le_of_ble_eq_true rfl) dL_templates_37 ⟨Nat.zero_le _, Nat.zero_le _⟩) hS (fun H locs hP hS => ?_)
    refine lv_ldc2 hx hb hown (hw _ bw798) dL_templates_40 ?_
    refine W.lcmp hx hb dL_templates_43 ?_
    refine lv_if_eq (tgt := 51) hx hb dL_templates_44 (by decide) (fun c11 => ?_) (fun c11 => ?_)
    · replace hf := (if_pos c11).symm.trans hf
      refine lv_iconst (v := 0) hx hb dL_templates_51 (by decide) ?_
      exact B52 u9.2.1 u9.2.2 x1 0 s0 _ _ _ hP hS (lv_sub hl [0, 1] rfl) hf
    · replace hf := (if_neg c11).symm.trans hf
      refine lv_iconst (v := 1) hx hb dL_templates_47 (by decide) ?_
      refine lv_goto (tgt := 52) hx hb dL_templates_48 (by decide) ?_
      exact B52 u9.2.1 u9.2.2 x1 1 s0 _ _ _ hP hS (lv_sub hl [0, 1] rfl) hf
  refine lv_aload_n hx hb dL_templates_0 rfl (lv_at hl 0 rfl) ?_
  obtain ⟨u1, e2, hf⟩ := bd_some hf
  refine xci (xRunV (rest := []) (As := []) (C := RX11) (k := 0) C0 (c_X11_ends l E g a e2) bw667 bw800 bw13 bw801 bw802 hd_X11_ends ⟨Nat.le_of_ble_eq_true rfl, Nat.le_of_ble_eq_true rfl⟩ hP (wX_D hD) hS (va_recv hK hP (ci := 11) rfl (gx_0 E g a)) rfl hl.1 rfl (Nat.le_of_ble_eq_true rfl) dL_templates_1 ⟨Nat.zero_le _, Nat.zero_le _⟩) hS (fun H locs hP hS => ?_)
  refine lv_istore_n (lv' := [(2, .int u1.1), (0, .ref (E.2.1 0)), (1, .int v1)]) hx hb dL_templates_4 rfl hl (by decide) rfl (fun ls hl => ?_)
  refine lv_aload_n hx hb dL_templates_5 rfl (lv_at hl 1 rfl) ?_
  obtain ⟨u3, e4, hf⟩ := bd_some hf
  refine xci (xRunV (rest := []) (As := []) (C := RX11) (k := 0) C0 (c_X11_core l E u1.2.1 u1.2.2 e4) bw671 bw803 bw13 bw804 bw805 hd_X11_core ⟨Nat.le_of_ble_eq_true rfl, Nat.le_of_ble_eq_true rfl⟩ hP (wX_D hD) hS (va_recv hK hP (ci := 11) rfl (gx_0 E u1.2.1 u1.2.2)) rfl hl.1 rfl (Nat.le_of_ble_eq_true rfl) dL_templates_6 ⟨Nat.zero_le _, Nat.zero_le _⟩) hS (fun H locs hP hS => ?_)
  refine lv_istore_n (lv' := [(3, .int u3.1), (2, .int u1.1), (0, .ref (E.2.1 0)), (1, .int v1)]) hx hb dL_templates_9 rfl hl (by decide) rfl (fun ls hl => ?_)
  refine lv_iload_n hx hb dL_templates_10 rfl (lv_at hl 1 rfl) ?_
  refine lv_iconst (v := 1) hx hb dL_templates_11 (by decide) ?_
  refine lv_icmp_lt (tgt := 114) hx hb dL_templates_12 (by decide) (fun c5 => ?_) (fun c5 => ?_)
  · replace hf := (if_pos c5).symm.trans hf
    refine lv_iconst (v := 0) hx hb dL_templates_114 (by decide) ?_
    exact xz_retS (fr := (fun r => r.1)) (fw := (fun r => wX E r.2.1 r.2.2)) hx hb hr hlocks (Option.some.inj hf) nz0 hP hS dL_templates_115
  · replace hf := (if_neg c5).symm.trans hf
    refine lv_iload_n hx hb dL_templates_15 rfl (lv_at hl 0 rfl) ?_
    refine lv_iconst (v := 1) hx hb dL_templates_16 (by decide) ?_
    refine lv_icmp_lt (tgt := 114) hx hb dL_templates_17 (by decide) (fun c6 => ?_) (fun c6 => ?_)
    · replace hf := (if_pos c6).symm.trans hf
      refine lv_iconst (v := 0) hx hb dL_templates_114 (by decide) ?_
      exact xz_retS (fr := (fun r => r.1)) (fw := (fun r => wX E r.2.1 r.2.2)) hx hb hr hlocks (Option.some.inj hf) nz0 hP hS dL_templates_115
    · replace hf := (if_neg c6).symm.trans hf
      refine lv_iload_n hx hb dL_templates_20 rfl (lv_at hl 0 rfl) ?_
      refine lv_iload_n hx hb dL_templates_21 rfl (lv_at hl 3 rfl) ?_
      refine lv_icmp_gt (tgt := 114) hx hb dL_templates_22 (by decide) (fun c7 => ?_) (fun c7 => ?_)
      · replace hf := (if_pos c7).symm.trans hf
        refine lv_iconst (v := 0) hx hb dL_templates_114 (by decide) ?_
        exact xz_retS (fr := (fun r => r.1)) (fw := (fun r => wX E r.2.1 r.2.2)) hx hb hr hlocks (Option.some.inj hf) nz0 hP hS dL_templates_115
      · replace hf := (if_neg c7).symm.trans hf
        refine lv_iload_n hx hb dL_templates_25 rfl (lv_at hl 0 rfl) ?_
        refine lv_iconst (v := 1) hx hb dL_templates_26 (by decide) ?_
        refine lv_icmp_ne (tgt := 34) hx hb dL_templates_27 (by decide) (fun c8 => ?_) (fun c8 => ?_)
        · replace hf := (if_neg c8).symm.trans hf
          refine lv_iconst (v := 0) hx hb dL_templates_34 (by decide) ?_
          exact B35 u3.2.1 u3.2.2 v1 0 _ _ _ hP hS (lv_sub hl [2, 3] rfl) hf
        · replace hf := (if_pos c8).symm.trans hf
          refine lv_iconst (v := 1) hx hb dL_templates_30 (by decide) ?_
          refine lv_goto (tgt := 35) hx hb dL_templates_31 (by decide) ?_
          exact B35 u3.2.1 u3.2.2 v1 1 _ _ _ hP hS (lv_sub hl [2, 3] rfl) hf
def f_L_value_5 (g : xG) (a : xA) : Nat → Int32 → Int32 → Int32 → Int32 → Option (Int32)
  | 0, _, _, _, _ => none
  | n + 1, x1, x2, x3, x4 => (if x2 ≤ x4 then ck (nzB x1) (some (x3 - x3 / x1 * x1)) else ck (nzB x1) (f_L_value_5 g a n x1 x2 (x3 / x1) (x4 + 1)))
theorem e_L_value_5 (g : xG) (a : xA) (n : Nat) (x1 : Int32) (x2 : Int32) (x3 : Int32) (x4 : Int32) : f_L_value_5 g a (n + 1) x1 x2 x3 x4 = (if x2 ≤ x4 then ck (nzB x1) (some (x3 - x3 / x1 * x1)) else ck (nzB x1) (f_L_value_5 g a n x1 x2 (x3 / x1) (x4 + 1))) := rfl
def f_L_value (g : xG) (a : xA) (v0 : Int32) (v1 : Int32) (v2 : Int32) : Option (Int32) := f_L_value_5 g a fu v1 v2 v0 0
set_option maxRecDepth 100000 in
set_option maxHeartbeats 40000000 in
theorem c_L_value (l : Launch) (E : xE) (g : xG) (a : xA) (v0 : Int32) (v1 : Int32) (v2 : Int32) {res : Int32} (hf : f_L_value g a v0 v1 v2 = some res) : xM l E yL_value cL_value 5 (some .int) 0 0 [.int v0, .int v1, .int v2] (wX E g a) (xQi E res (wX E g a)) := by
  unfold f_L_value at hf
  refine xM_of (by decide) (Nat.le_of_ble_eq_true rfl) ?_
  intro p e s m below meth c A hx hb hr hml hts hown hlocks hA hD hP hK hN hS ls hl
  have hw : ∀ w ∈ BW, w.before _ s = true := fun w h => hts w (List.mem_cons_of_mem _ h)
  have C0 : xCtx E p m c cL_value 5 s _ RL A yL_value cL_value 5 (some .int) := ⟨hx, hb, hml, hown, hts, hA, hK, hN⟩
  have hl : lv_has ls 5 [(0, .int v0), (1, .int v1), (2, .int v2)] := hl
  have B5 : ∀ (n : Nat) (x1 : Int32) (x2 : Int32) (x3 : Int32) (x4 : Int32) (H : Heap) (locs : List Loc) (ls : Array Slot), va_P E.1 vwCl (wX E g a) H → va_S A s.heap H locs → lv_has ls 5 [(1, .int x1), (2, .int x2), (3, .int x3), (4, .int x4)] → f_L_value_5 g a n x1 x2 x3 x4 = some res → W p l e ({ frames := 0, cells := 0, slots := 0, locals := 0 }) s m ([.int v0, .int v1, .int v2] : List Value).toArray below meth c H locs 0 0 (MQ below ((xQi E res (wX E g a)) A) ([.int v0, .int v1, .int v2] : List Value).toArray s 0 0 A) (F0 m 5 ls []) := by
    intro n
    induction n with
    | zero => intro x1 x2 x3 x4 H locs ls hP hS hl hf; exact absurd (show (none : Option (Int32)) = some res from hf) (by intro h; cases h)
    | succ n ih =>
      intro x1 x2 x3 x4 H locs ls hP hS hl hf
      replace hf := (e_L_value_5 g a n x1 x2 x3 x4).symm.trans hf
      refine lv_iload hx hb dL_value_5 (lv_at hl 3 rfl) ?_
      refine lv_iload_n hx hb dL_value_7 rfl (lv_at hl 1 rfl) ?_
      refine lv_icmp_ge (tgt := 21) hx hb dL_value_8 (by decide) (fun c1 => ?_) (fun c1 => ?_)
      · replace hf := (if_pos c1).symm.trans hf
        refine lv_iload_n hx hb dL_value_21 rfl (lv_at hl 2 rfl) ?_
        refine lv_iload_n hx hb dL_value_22 rfl (lv_at hl 0 rfl) ?_
        obtain ⟨k2, hf⟩ := ck_some hf
        refine lv_irem hx hb dL_value_23 (nzB_nz k2) ?_
        exact xi_retS (fr := (fun r => r)) (fw := (fun r => wX E g a)) hx hb hr hlocks (Option.some.inj hf) hP hS dL_value_24
      · replace hf := (if_neg c1).symm.trans hf
        refine lv_iload_n hx hb dL_value_11 rfl (lv_at hl 2 rfl) ?_
        refine lv_iload_n hx hb dL_value_12 rfl (lv_at hl 0 rfl) ?_
        obtain ⟨k3, hf⟩ := ck_some hf
        refine lv_idiv hx hb dL_value_13 (nzB_nz k3) ?_
        refine lv_istore_n (lv' := [(3, .int (x3 / x1)), (1, .int x1), (2, .int x2), (4, .int x4)]) hx hb dL_value_14 rfl hl (by decide) rfl (fun ls hl => ?_)
        refine lv_iinc (v := (x4 + 1)) (lv' := [(4, .int (x4 + 1)), (3, .int (x3 / x1)), (1, .int x1), (2, .int x2)]) hx hb dL_value_15 hl (k := 3) rfl rfl (by decide) rfl (fun ls hl => ?_)
        refine lv_goto (tgt := 5) hx hb dL_value_18 (by decide) ?_
        exact ih x1 x2 (x3 / x1) (x4 + 1) _ _ _ hP hS (lv_sub hl [2, 3, 1, 0] rfl) hf
  refine lv_iload_n hx hb dL_value_0 rfl (lv_at hl 0 rfl) ?_
  refine lv_istore_n (lv' := [(3, .int v0), (0, .int v0), (1, .int v1), (2, .int v2)]) hx hb dL_value_1 rfl hl (by decide) rfl (fun ls hl => ?_)
  refine lv_iconst (v := 0) hx hb dL_value_2 (by decide) ?_
  refine lv_istore (lv' := [(4, .int 0), (3, .int v0), (0, .int v0), (1, .int v1), (2, .int v2)]) hx hb dL_value_3 hl (by decide) rfl (fun ls hl => ?_)
  exact B5 fu v1 v2 v0 0 _ _ _ hP hS (lv_sub hl [3, 4, 1, 0] rfl) hf
def f_L_instances_111 (g : xG) (K52 : xA → Int32 → Int32 → Int32 → Int32 → Int32 → Int32 → Option (Int32 × xA)) : Nat → xA → Int32 → Int32 → Int32 → Int32 → Int32 → Int32 → Int32 → Option (Int32 × xA)
  | 0, _, _, _, _, _, _, _, _ => none
  | n + 1, a, x1, x2, x3, x4, x5, x6, x8 => (if x6 ≤ x8 then K52 a x1 x2 x3 x4 x5 (x6 + 1) else (if x5 = 0 then K52 a x1 x2 x3 x4 x5 (x6 + 1) else (if x3 ≤ 0 then K52 a x1 x2 x3 x4 x5 (x6 + 1) else Option.bind (f_L_value g a x4 x1 x8) (fun u22 => Option.bind (f_L_value g a x4 x1 x6) (fun u24 => Option.bind (f_L_value g a x4 x1 x6) (fun u26 => Option.bind (f_L_value g a x4 x1 x8) (fun u28 => Option.bind (rgt (f_X11_pairs g a x8 x6)) (fun u30 => (if (((u30.1 : Int32) >>> ((u22 + (x1 * u24)) &&& 31)) &&& 1) = 1 then Option.bind (rgt (f_X11_pairs g u30.2 x6 x8)) (fun u33 => (if (((u33.1 : Int32) >>> ((u26 + (x1 * u28)) &&& 31)) &&& 1) = 1 then f_L_instances_111 g K52 n u33.2 x1 x2 x3 x4 1 x6 (x8 + 1) else f_L_instances_111 g K52 n u33.2 x1 x2 x3 x4 0 x6 (x8 + 1))) else f_L_instances_111 g K52 n u30.2 x1 x2 x3 x4 0 x6 (x8 + 1))))))))))
theorem e_L_instances_111 (g : xG) (K52 : xA → Int32 → Int32 → Int32 → Int32 → Int32 → Int32 → Option (Int32 × xA)) (n : Nat) (a : xA) (x1 : Int32) (x2 : Int32) (x3 : Int32) (x4 : Int32) (x5 : Int32) (x6 : Int32) (x8 : Int32) : f_L_instances_111 g K52 (n + 1) a x1 x2 x3 x4 x5 x6 x8 = (if x6 ≤ x8 then K52 a x1 x2 x3 x4 x5 (x6 + 1) else (if x5 = 0 then K52 a x1 x2 x3 x4 x5 (x6 + 1) else (if x3 ≤ 0 then K52 a x1 x2 x3 x4 x5 (x6 + 1) else Option.bind (f_L_value g a x4 x1 x8) (fun u22 => Option.bind (f_L_value g a x4 x1 x6) (fun u24 => Option.bind (f_L_value g a x4 x1 x6) (fun u26 => Option.bind (f_L_value g a x4 x1 x8) (fun u28 => Option.bind (rgt (f_X11_pairs g a x8 x6)) (fun u30 => (if (((u30.1 : Int32) >>> ((u22 + (x1 * u24)) &&& 31)) &&& 1) = 1 then Option.bind (rgt (f_X11_pairs g u30.2 x6 x8)) (fun u33 => (if (((u33.1 : Int32) >>> ((u26 + (x1 * u28)) &&& 31)) &&& 1) = 1 then f_L_instances_111 g K52 n u33.2 x1 x2 x3 x4 1 x6 (x8 + 1) else f_L_instances_111 g K52 n u33.2 x1 x2 x3 x4 0 x6 (x8 + 1))) else f_L_instances_111 g K52 n u30.2 x1 x2 x3 x4 0 x6 (x8 + 1)))))))))) := rfl
def f_L_instances_80 (g : xG) (K52 : xA → Int32 → Int32 → Int32 → Int32 → Int32 → Int32 → Option (Int32 × xA)) (a : xA) (x1 : Int32) (x2 : Int32) (x3 : Int32) (x4 : Int32) (x6 : Int32) (x7 : Int32) : Option (Int32 × xA) := (if x3 = 0 then f_L_instances_111 g K52 fu a x1 x2 x3 x4 1 x6 0 else Option.bind (f_L_value g a x4 x1 x6) (fun u37 => (if (((x7 : Int32) >>> (u37 &&& 31)) &&& 1) = 1 then f_L_instances_111 g K52 fu a x1 x2 x3 x4 1 x6 0 else f_L_instances_111 g K52 fu a x1 x2 x3 x4 0 x6 0)))
def f_L_instances_52 (g : xG) : Nat → xA → Int32 → Int32 → Int32 → Int32 → Int32 → Int32 → Option (Int32 × xA)
  | 0, _, _, _, _, _, _, _ => none
  | n + 1, a, x1, x2, x3, x4, x5, x6 => (if x2 ≤ x6 then ck (boB x5) (some (x5, a)) else (if x5 = 0 then ck (boB x5) (some (x5, a)) else Option.bind (rgt (f_X11_left g a x6)) (fun u15 => (if u15.1 = 0 then (if x3 = 0 then f_L_instances_80 g (f_L_instances_52 g n) u15.2 x1 x2 x3 x4 x6 u15.1 else f_L_instances_111 g (f_L_instances_52 g n) fu u15.2 x1 x2 x3 x4 0 x6 0) else f_L_instances_80 g (f_L_instances_52 g n) u15.2 x1 x2 x3 x4 x6 u15.1))))
theorem e_L_instances_52 (g : xG) (n : Nat) (a : xA) (x1 : Int32) (x2 : Int32) (x3 : Int32) (x4 : Int32) (x5 : Int32) (x6 : Int32) : f_L_instances_52 g (n + 1) a x1 x2 x3 x4 x5 x6 = (if x2 ≤ x6 then ck (boB x5) (some (x5, a)) else (if x5 = 0 then ck (boB x5) (some (x5, a)) else Option.bind (rgt (f_X11_left g a x6)) (fun u15 => (if u15.1 = 0 then (if x3 = 0 then f_L_instances_80 g (f_L_instances_52 g n) u15.2 x1 x2 x3 x4 x6 u15.1 else f_L_instances_111 g (f_L_instances_52 g n) fu u15.2 x1 x2 x3 x4 0 x6 0) else f_L_instances_80 g (f_L_instances_52 g n) u15.2 x1 x2 x3 x4 x6 u15.1)))) := rfl
def f_L_instances_39 (g : xG) (a : xA) (x1 : Int32) (x2 : Int32) (x3 : Int32) (x4 : Int32) (s0 : Int32) (s1 : Int32) : Option (Int32 × xA) := (if s1 = s0 then f_L_instances_52 g fu a x1 x2 x3 x4 1 0 else f_L_instances_52 g fu a x1 x2 x3 x4 0 0)
def f_L_instances_28 (g : xG) (a : xA) (x1 : Int32) (x2 : Int32) (x3 : Int32) (x4 : Int32) (s0 : Int32) : Option (Int32 × xA) := (if x4 = (-1) then f_L_instances_39 g a x1 x2 x3 x4 1 s0 else f_L_instances_39 g a x1 x2 x3 x4 0 s0)
def f_L_instances (g : xG) (a : xA) (v1 : Int32) (v2 : Int32) : Option (Int32 × xA) := Option.bind (f_X11_solutions g a) (fun u1 => Option.bind (f_X11_solve g u1.2) (fun u3 => Option.bind (f_X11_solutionsAnew g u3.2) (fun u5 => (if u1.1 = u5.1 then (if u1.1 = 0 then f_L_instances_28 g u5.2 v1 v2 u1.1 u3.1 1 else f_L_instances_28 g u5.2 v1 v2 u1.1 u3.1 0) else f_L_instances_52 g fu u5.2 v1 v2 u1.1 u3.1 0 0))))
set_option maxRecDepth 100000 in
set_option maxHeartbeats 40000000 in
theorem c_L_instances (l : Launch) (E : xE) (g : xG) (a : xA) (v1 : Int32) (v2 : Int32) {res : Int32 × xA} (hf : f_L_instances g a v1 v2 = some res) : xM l E yL_instances cL_instances 11 (some .boolean) 16 366 [.ref (E.2.1 0), .int v1, .int v2] (wX E g a) (xQi E res.1 (wX E g res.2)) := by
  unfold f_L_instances at hf
  refine xM_of (by decide) (Nat.le_of_ble_eq_true rfl) ?_
  intro p e s m below meth c A hx hb hr hml hts hown hlocks hA hD hP hK hN hS ls hl
  have hw : ∀ w ∈ BW, w.before _ s = true := fun w h => hts w (List.mem_cons_of_mem _ h)
  have C0 : xCtx E p m c cL_instances 11 s _ RL A yL_instances cL_instances 11 (some .boolean) := ⟨hx, hb, hml, hown, hts, hA, hK, hN⟩
  have hl : lv_has ls 11 [(0, .ref (E.2.1 0)), (1, .int v1), (2, .int v2)] := hl
  have B111 : ∀ (K52 : xA → Int32 → Int32 → Int32 → Int32 → Int32 → Int32 → Option (Int32 × xA)) (hK52 : ∀ (a : xA) (x1 : Int32) (x2 : Int32) (x3 : Int32) (x4 : Int32) (x5 : Int32) (x6 : Int32) (H : Heap) (locs : List Loc) (ls : Array Slot), va_P E.1 vwCl (wX E g a) H → va_S A s.heap H locs → lv_has ls 11 [(0, .ref (E.2.1 0)), (1, .int x1), (2, .int x2), (3, .int x3), (4, .int x4), (5, .int x5), (6, .int x6)] → K52 a x1 x2 x3 x4 x5 x6 = some res → W p l e ({ frames := 16, cells := 0, slots := 0, locals := 366 }) s m ([.ref (E.2.1 0), .int v1, .int v2] : List Value).toArray below meth c H locs 0 0 (MQ below ((xQi E res.1 (wX E g res.2)) A) ([.ref (E.2.1 0), .int v1, .int v2] : List Value).toArray s 0 0 A) (F0 m 52 ls [])) (n : Nat) (a : xA) (x1 : Int32) (x2 : Int32) (x3 : Int32) (x4 : Int32) (x5 : Int32) (x6 : Int32) (x8 : Int32) (H : Heap) (locs : List Loc) (ls : Array Slot), va_P E.1 vwCl (wX E g a) H → va_S A s.heap H locs → lv_has ls 11 [(0, .ref (E.2.1 0)), (1, .int x1), (2, .int x2), (3, .int x3), (4, .int x4), (5, .int x5), (6, .int x6), (8, .int x8)] → f_L_instances_111 g K52 n a x1 x2 x3 x4 x5 x6 x8 = some res → W p l e ({ frames := 16, cells := 0, slots := 0, locals := 366 }) s m ([.ref (E.2.1 0), .int v1, .int v2] : List Value).toArray below meth c H locs 0 0 (MQ below ((xQi E res.1 (wX E g res.2)) A) ([.ref (E.2.1 0), .int v1, .int v2] : List Value).toArray s 0 0 A) (F0 m 111 ls []) := by
    intro K52 hK52 n
    induction n with
    | zero => intro a x1 x2 x3 x4 x5 x6 x8 H locs ls hP hS hl hf; exact absurd (show (none : Option (Int32 × xA)) = some res from hf) (by intro h; cases h)
    | succ n ih =>
      intro a x1 x2 x3 x4 x5 x6 x8 H locs ls hP hS hl hf
      replace hf := (e_L_instances_111 g K52 n a x1 x2 x3 x4 x5 x6 x8).symm.trans hf
      refine lv_iload hx hb dL_instances_111 (lv_at hl 7 rfl) ?_
      refine lv_iload hx hb dL_instances_113 (lv_at hl 6 rfl) ?_
      refine lv_icmp_ge (tgt := 216) hx hb dL_instances_115 (by decide) (fun c19 => ?_) (fun c19 => ?_)
      · replace hf := (if_pos c19).symm.trans hf
        refine lv_iinc (v := (x6 + 1)) (lv' := [(6, .int (x6 + 1)), (0, .ref (E.2.1 0)), (1, .int x1), (2, .int x2), (3, .int x3), (4, .int x4), (5, .int x5), (8, .int x8)]) hx hb dL_instances_216 hl (k := 6) rfl rfl (by decide) rfl (fun ls hl => ?_)
        refine lv_goto (tgt := 52) hx hb dL_instances_219 (by decide) ?_
        exact hK52 a x1 x2 x3 x4 x5 (x6 + 1) _ _ _ hP hS (lv_sub hl [1, 2, 3, 4, 5, 6, 0] rfl) hf
      · replace hf := (if_neg c19).symm.trans hf
        refine lv_iload hx hb dL_instances_118 (lv_at hl 5 rfl) ?_
        refine lv_if_eq (tgt := 216) hx hb dL_instances_120 (by decide) (fun c20 => ?_) (fun c20 => ?_)
        · replace hf := (if_pos c20).symm.trans hf
          refine lv_iinc (v := (x6 + 1)) (lv' := [(6, .int (x6 + 1)), (0, .ref (E.2.1 0)), (1, .int x1), (2, .int x2), (3, .int x3), (4, .int x4), (5, .int x5), (8, .int x8)]) hx hb dL_instances_216 hl (k := 6) rfl rfl (by decide) rfl (fun ls hl => ?_)
          refine lv_goto (tgt := 52) hx hb dL_instances_219 (by decide) ?_
          exact hK52 a x1 x2 x3 x4 x5 (x6 + 1) _ _ _ hP hS (lv_sub hl [1, 2, 3, 4, 5, 6, 0] rfl) hf
        · replace hf := (if_neg c20).symm.trans hf
          refine lv_iload_n hx hb dL_instances_123 rfl (lv_at hl 3 rfl) ?_
          refine lv_if_le (tgt := 216) hx hb dL_instances_124 (by decide) (fun c21 => ?_) (fun c21 => ?_)
          · replace hf := (if_pos c21).symm.trans hf
            refine lv_iinc (v := (x6 + 1)) (lv' := [(6, .int (x6 + 1)), (0, .ref (E.2.1 0)), (1, .int x1), (2, .int x2), (3, .int x3), (4, .int x4), (5, .int x5), (8, .int x8)]) hx hb dL_instances_216 hl (k := 6) rfl rfl (by decide) rfl (fun ls hl => ?_)
            refine lv_goto (tgt := 52) hx hb dL_instances_219 (by decide) ?_
            exact hK52 a x1 x2 x3 x4 x5 (x6 + 1) _ _ _ hP hS (lv_sub hl [1, 2, 3, 4, 5, 6, 0] rfl) hf
          · replace hf := (if_neg c21).symm.trans hf
            refine lv_iload hx hb dL_instances_127 (lv_at hl 4 rfl) ?_
            refine lv_iload_n hx hb dL_instances_129 rfl (lv_at hl 1 rfl) ?_
            refine lv_iload hx hb dL_instances_130 (lv_at hl 7 rfl) ?_
            obtain ⟨u22, e23, hf⟩ := bd_some hf
            refine xci (xRunS (rest := []) (As := [.int x4, .int x1, .int x8]) (k := 3) C0 (c_L_value l E g a x4 x1 x8 e23) bw816 bw829 bw742 bw830 hd_L_value ⟨Nat.le_of_ble_eq_true rfl, Nat.le_of_ble_eq_true rfl⟩ hP (wX_D hD) hS rfl hl.1 rfl (Nat.le_of_ble_eq_true rfl) dL_instances_132 ⟨Nat.zero_le _, Nat.zero_le _⟩) hS (fun H locs hP hS => ?_)
            refine lv_iload_n hx hb dL_instances_135 rfl (lv_at hl 1 rfl) ?_
            refine lv_iload hx hb dL_instances_136 (lv_at hl 4 rfl) ?_
            refine lv_iload_n hx hb dL_instances_138 rfl (lv_at hl 1 rfl) ?_
            refine lv_iload hx hb dL_instances_139 (lv_at hl 6 rfl) ?_
            obtain ⟨u24, e25, hf⟩ := bd_some hf
            refine xci (xRunS (rest := [.int x1, .int u22]) (As := [.int x4, .int x1, .int x6]) (k := 3) C0 (c_L_value l E g a x4 x1 x6 e25) bw816 bw829 bw742 bw830 hd_L_value ⟨Nat.le_of_ble_eq_true rfl, Nat.le_of_ble_eq_true rfl⟩ hP (wX_D hD) hS rfl hl.1 rfl (Nat.le_of_ble_eq_true rfl) dL_instances_141 ⟨Nat.zero_le _, Nat.zero_le _⟩) hS (fun H locs hP hS => ?_)
            refine lv_imul hx hb dL_instances_144 ?_
            refine lv_iadd hx hb dL_instances_145 ?_
            refine lv_istore (lv' := [(9, .int (u22 + (x1 * u24))), (0, .ref (E.2.1 0)), (1, .int x1), (2, .int x2), (3, .int x3), (4, .int x4), (5, .int x5), (6, .int x6), (8, .int x8)]) hx hb dL_instances_146 hl (by decide) rfl (fun ls hl => ?_)
            refine lv_iload hx hb dL_instances_148 (lv_at hl 5 rfl) ?_
            refine lv_iload_n hx hb dL_instances_150 rfl (lv_at hl 2 rfl) ?_
            refine lv_iload hx hb dL_instances_151 (lv_at hl 7 rfl) ?_
            obtain ⟨u26, e27, hf⟩ := bd_some hf
            refine xci (xRunS (rest := []) (As := [.int x4, .int x1, .int x6]) (k := 3) C0 (c_L_value l E g a x4 x1 x6 e27) bw816 bw829 bw742 bw830 hd_L_value ⟨Nat.le_of_ble_eq_true rfl, Nat.le_of_ble_eq_true rfl⟩ hP (wX_D hD) hS rfl hl.1 rfl (Nat.le_of_ble_eq_true rfl) dL_instances_153 ⟨Nat.zero_le _, Nat.zero_le _⟩) hS (fun H locs hP hS => ?_)
            refine lv_iload_n hx hb dL_instances_156 rfl (lv_at hl 2 rfl) ?_
            refine lv_iload hx hb dL_instances_157 (lv_at hl 5 rfl) ?_
            refine lv_iload_n hx hb dL_instances_159 rfl (lv_at hl 2 rfl) ?_
            refine lv_iload hx hb dL_instances_160 (lv_at hl 8 rfl) ?_
            obtain ⟨u28, e29, hf⟩ := bd_some hf
            refine xci (xRunS (rest := [.int x1, .int u26]) (As := [.int x4, .int x1, .int x8]) (k := 3) C0 (c_L_value l E g a x4 x1 x8 e29) bw816 bw829 bw742 bw830 hd_L_value ⟨Nat.le_of_ble_eq_true rfl, Nat.le_of_ble_eq_true rfl⟩ hP (wX_D hD) hS rfl hl.1 rfl (Nat.le_of_ble_eq_true rfl) dL_instances_162 ⟨Nat.zero_le _, Nat.zero_le _⟩) hS (fun H locs hP hS => ?_)
            refine lv_imul hx hb dL_instances_165 ?_
            refine lv_iadd hx hb dL_instances_166 ?_
            refine lv_istore (lv' := [(10, .int (u26 + (x1 * u28))), (9, .int (u22 + (x1 * u24))), (0, .ref (E.2.1 0)), (1, .int x1), (2, .int x2), (3, .int x3), (4, .int x4), (5, .int x5), (6, .int x6), (8, .int x8)]) hx hb dL_instances_167 hl (by decide) rfl (fun ls hl => ?_)
            refine lv_aload_n hx hb dL_instances_169 rfl (lv_at hl 2 rfl) ?_
            refine lv_iload hx hb dL_instances_170 (lv_at hl 9 rfl) ?_
            refine lv_iload hx hb dL_instances_172 (lv_at hl 8 rfl) ?_
            obtain ⟨u30, e31, hf⟩ := bd_some hf
            refine xci (xRunV (rest := []) (As := [.int x8, .int x6]) (C := RX11) (k := 2) C0 (cr_X11_pairs l E g a x8 x6 (rgt_some e31)) bw727 bw831 bw13 bw832 bw833 hd_X11_pairs ⟨Nat.le_of_ble_eq_true rfl, Nat.le_of_ble_eq_true rfl⟩ hP (wX_D hD) hS (va_recv hK hP (ci := 11) rfl (gx_0 E g a)) rfl hl.1 rfl (Nat.le_of_ble_eq_true rfl) dL_instances_174 ⟨Nat.zero_le _, Nat.zero_le _⟩) hS (fun H locs hP hS => ?_)
            refine lv_iload hx hb dL_instances_177 (lv_at hl 1 rfl) ?_
            refine lv_ishr hx hb dL_instances_179 ?_
            refine lv_iconst (v := 1) hx hb dL_instances_180 (by decide) ?_
            refine lv_iand hx hb dL_instances_181 ?_
            refine lv_iconst (v := 1) hx hb dL_instances_182 (by decide) ?_
            refine lv_icmp_ne (tgt := 207) hx hb dL_instances_183 (by decide) (fun c32 => ?_) (fun c32 => ?_)
            · replace hf := (if_neg c32).symm.trans hf
              refine lv_iconst (v := 0) hx hb dL_instances_207 (by decide) ?_
              refine lv_istore (lv' := [(5, .int 0), (10, .int (u26 + (x1 * u28))), (9, .int (u22 + (x1 * u24))), (0, .ref (E.2.1 0)), (1, .int x1), (2, .int x2), (3, .int x3), (4, .int x4), (6, .int x6), (8, .int x8)]) hx hb dL_instances_208 hl (by decide) rfl (fun ls hl => ?_)
              refine lv_iinc (v := (x8 + 1)) (lv' := [(8, .int (x8 + 1)), (5, .int 0), (10, .int (u26 + (x1 * u28))), (9, .int (u22 + (x1 * u24))), (0, .ref (E.2.1 0)), (1, .int x1), (2, .int x2), (3, .int x3), (4, .int x4), (6, .int x6)]) hx hb dL_instances_210 hl (k := 9) rfl rfl (by decide) rfl (fun ls hl => ?_)
              refine lv_goto (tgt := 111) hx hb dL_instances_213 (by decide) ?_
              exact ih u30.2 x1 x2 x3 x4 0 x6 (x8 + 1) _ _ _ hP hS (lv_sub hl [4, 5, 6, 7, 8, 1, 9, 0] rfl) hf
            · replace hf := (if_pos c32).symm.trans hf
              refine lv_aload_n hx hb dL_instances_186 rfl (lv_at hl 2 rfl) ?_
              refine lv_iload hx hb dL_instances_187 (lv_at hl 8 rfl) ?_
              refine lv_iload hx hb dL_instances_189 (lv_at hl 9 rfl) ?_
              obtain ⟨u33, e34, hf⟩ := bd_some hf
              refine xci (xRunV (rest := []) (As := [.int x6, .int x8]) (C := RX11) (k := 2) C0 (cr_X11_pairs l E g u30.2 x6 x8 (rgt_some e34)) bw727 bw831 bw13 bw832 bw833 hd_X11_pairs ⟨Nat.le_of_ble_eq_true rfl, Nat.le_of_ble_eq_true rfl⟩ hP (wX_D hD) hS (va_recv hK hP (ci := 11) rfl (gx_0 E g u30.2)) rfl hl.1 rfl (Nat.le_of_ble_eq_true rfl) dL_instances_191 ⟨Nat.zero_le _, Nat.zero_le _⟩) hS (fun H locs hP hS => ?_)
              refine lv_iload hx hb dL_instances_194 (lv_at hl 0 rfl) ?_
              refine lv_ishr hx hb dL_instances_196 ?_
              refine lv_iconst (v := 1) hx hb dL_instances_197 (by decide) ?_
              refine lv_iand hx hb dL_instances_198 ?_
              refine lv_iconst (v := 1) hx hb dL_instances_199 (by decide) ?_
              refine lv_icmp_ne (tgt := 207) hx hb dL_instances_200 (by decide) (fun c35 => ?_) (fun c35 => ?_)
              · replace hf := (if_neg c35).symm.trans hf
                refine lv_iconst (v := 0) hx hb dL_instances_207 (by decide) ?_
                refine lv_istore (lv' := [(5, .int 0), (10, .int (u26 + (x1 * u28))), (9, .int (u22 + (x1 * u24))), (0, .ref (E.2.1 0)), (1, .int x1), (2, .int x2), (3, .int x3), (4, .int x4), (6, .int x6), (8, .int x8)]) hx hb dL_instances_208 hl (by decide) rfl (fun ls hl => ?_)
                refine lv_iinc (v := (x8 + 1)) (lv' := [(8, .int (x8 + 1)), (5, .int 0), (10, .int (u26 + (x1 * u28))), (9, .int (u22 + (x1 * u24))), (0, .ref (E.2.1 0)), (1, .int x1), (2, .int x2), (3, .int x3), (4, .int x4), (6, .int x6)]) hx hb dL_instances_210 hl (k := 9) rfl rfl (by decide) rfl (fun ls hl => ?_)
                refine lv_goto (tgt := 111) hx hb dL_instances_213 (by decide) ?_
                exact ih u33.2 x1 x2 x3 x4 0 x6 (x8 + 1) _ _ _ hP hS (lv_sub hl [4, 5, 6, 7, 8, 1, 9, 0] rfl) hf
              · replace hf := (if_pos c35).symm.trans hf
                refine lv_iconst (v := 1) hx hb dL_instances_203 (by decide) ?_
                refine lv_goto (tgt := 208) hx hb dL_instances_204 (by decide) ?_
                refine lv_istore (lv' := [(5, .int 1), (10, .int (u26 + (x1 * u28))), (9, .int (u22 + (x1 * u24))), (0, .ref (E.2.1 0)), (1, .int x1), (2, .int x2), (3, .int x3), (4, .int x4), (6, .int x6), (8, .int x8)]) hx hb dL_instances_208 hl (by decide) rfl (fun ls hl => ?_)
                refine lv_iinc (v := (x8 + 1)) (lv' := [(8, .int (x8 + 1)), (5, .int 1), (10, .int (u26 + (x1 * u28))), (9, .int (u22 + (x1 * u24))), (0, .ref (E.2.1 0)), (1, .int x1), (2, .int x2), (3, .int x3), (4, .int x4), (6, .int x6)]) hx hb dL_instances_210 hl (k := 9) rfl rfl (by decide) rfl (fun ls hl => ?_)
                refine lv_goto (tgt := 111) hx hb dL_instances_213 (by decide) ?_
                exact ih u33.2 x1 x2 x3 x4 1 x6 (x8 + 1) _ _ _ hP hS (lv_sub hl [4, 5, 6, 7, 8, 1, 9, 0] rfl) hf
  have B80 : ∀ (K52 : xA → Int32 → Int32 → Int32 → Int32 → Int32 → Int32 → Option (Int32 × xA)) (hK52 : ∀ (a : xA) (x1 : Int32) (x2 : Int32) (x3 : Int32) (x4 : Int32) (x5 : Int32) (x6 : Int32) (H : Heap) (locs : List Loc) (ls : Array Slot), va_P E.1 vwCl (wX E g a) H → va_S A s.heap H locs → lv_has ls 11 [(0, .ref (E.2.1 0)), (1, .int x1), (2, .int x2), (3, .int x3), (4, .int x4), (5, .int x5), (6, .int x6)] → K52 a x1 x2 x3 x4 x5 x6 = some res → W p l e ({ frames := 16, cells := 0, slots := 0, locals := 366 }) s m ([.ref (E.2.1 0), .int v1, .int v2] : List Value).toArray below meth c H locs 0 0 (MQ below ((xQi E res.1 (wX E g res.2)) A) ([.ref (E.2.1 0), .int v1, .int v2] : List Value).toArray s 0 0 A) (F0 m 52 ls [])) (a : xA) (x1 : Int32) (x2 : Int32) (x3 : Int32) (x4 : Int32) (x6 : Int32) (x7 : Int32) (H : Heap) (locs : List Loc) (ls : Array Slot), va_P E.1 vwCl (wX E g a) H → va_S A s.heap H locs → lv_has ls 11 [(0, .ref (E.2.1 0)), (1, .int x1), (2, .int x2), (3, .int x3), (4, .int x4), (6, .int x6), (7, .int x7)] → f_L_instances_80 g K52 a x1 x2 x3 x4 x6 x7 = some res → W p l e ({ frames := 16, cells := 0, slots := 0, locals := 366 }) s m ([.ref (E.2.1 0), .int v1, .int v2] : List Value).toArray below meth c H locs 0 0 (MQ below ((xQi E res.1 (wX E g res.2)) A) ([.ref (E.2.1 0), .int v1, .int v2] : List Value).toArray s 0 0 A) (F0 m 80 ls []) := by
    intro K52 hK52 a x1 x2 x3 x4 x6 x7 H locs ls hP hS hl hf
    unfold f_L_instances_80 at hf
    refine lv_iload_n hx hb dL_instances_80 rfl (lv_at hl 3 rfl) ?_
    refine lv_if_eq (tgt := 101) hx hb dL_instances_81 (by decide) (fun c36 => ?_) (fun c36 => ?_)
    · replace hf := (if_pos c36).symm.trans hf
      refine lv_iconst (v := 1) hx hb dL_instances_101 (by decide) ?_
      refine lv_goto (tgt := 106) hx hb dL_instances_102 (by decide) ?_
      refine lv_istore (lv' := [(5, .int 1), (0, .ref (E.2.1 0)), (1, .int x1), (2, .int x2), (3, .int x3), (4, .int x4), (6, .int x6), (7, .int x7)]) hx hb dL_instances_106 hl (by decide) rfl (fun ls hl => ?_)
      refine lv_iconst (v := 0) hx hb dL_instances_108 (by decide) ?_
      refine lv_istore (lv' := [(8, .int 0), (5, .int 1), (0, .ref (E.2.1 0)), (1, .int x1), (2, .int x2), (3, .int x3), (4, .int x4), (6, .int x6), (7, .int x7)]) hx hb dL_instances_109 hl (by decide) rfl (fun ls hl => ?_)
      exact B111 K52 hK52 fu a x1 x2 x3 x4 1 x6 0 _ _ _ hP hS (lv_sub hl [2, 3, 4, 5, 6, 1, 7, 0] rfl) hf
    · replace hf := (if_neg c36).symm.trans hf
      refine lv_iload hx hb dL_instances_84 (lv_at hl 6 rfl) ?_
      refine lv_iload hx hb dL_instances_86 (lv_at hl 4 rfl) ?_
      refine lv_iload_n hx hb dL_instances_88 rfl (lv_at hl 1 rfl) ?_
      refine lv_iload hx hb dL_instances_89 (lv_at hl 5 rfl) ?_
      obtain ⟨u37, e38, hf⟩ := bd_some hf
      refine xci (xRunS (rest := [.int x7]) (As := [.int x4, .int x1, .int x6]) (k := 3) C0 (c_L_value l E g a x4 x1 x6 e38) bw816 bw829 bw742 bw830 hd_L_value ⟨Nat.le_of_ble_eq_true rfl, Nat.le_of_ble_eq_true rfl⟩ hP (wX_D hD) hS rfl hl.1 rfl (Nat.le_of_ble_eq_true rfl) dL_instances_91 ⟨Nat.zero_le _, Nat.zero_le _⟩) hS (fun H locs hP hS => ?_)
      refine lv_ishr hx hb dL_instances_94 ?_
      refine lv_iconst (v := 1) hx hb dL_instances_95 (by decide) ?_
      refine lv_iand hx hb dL_instances_96 ?_
      refine lv_iconst (v := 1) hx hb dL_instances_97 (by decide) ?_
      refine lv_icmp_ne (tgt := 105) hx hb dL_instances_98 (by decide) (fun c39 => ?_) (fun c39 => ?_)
      · replace hf := (if_neg c39).symm.trans hf
        refine lv_iconst (v := 0) hx hb dL_instances_105 (by decide) ?_
        refine lv_istore (lv' := [(5, .int 0), (0, .ref (E.2.1 0)), (1, .int x1), (2, .int x2), (3, .int x3), (4, .int x4), (6, .int x6), (7, .int x7)]) hx hb dL_instances_106 hl (by decide) rfl (fun ls hl => ?_)
        refine lv_iconst (v := 0) hx hb dL_instances_108 (by decide) ?_
        refine lv_istore (lv' := [(8, .int 0), (5, .int 0), (0, .ref (E.2.1 0)), (1, .int x1), (2, .int x2), (3, .int x3), (4, .int x4), (6, .int x6), (7, .int x7)]) hx hb dL_instances_109 hl (by decide) rfl (fun ls hl => ?_)
        exact B111 K52 hK52 fu a x1 x2 x3 x4 0 x6 0 _ _ _ hP hS (lv_sub hl [2, 3, 4, 5, 6, 1, 7, 0] rfl) hf
      · replace hf := (if_pos c39).symm.trans hf
        refine lv_iconst (v := 1) hx hb dL_instances_101 (by decide) ?_
        refine lv_goto (tgt := 106) hx hb dL_instances_102 (by decide) ?_
        refine lv_istore (lv' := [(5, .int 1), (0, .ref (E.2.1 0)), (1, .int x1), (2, .int x2), (3, .int x3), (4, .int x4), (6, .int x6), (7, .int x7)]) hx hb dL_instances_106 hl (by decide) rfl (fun ls hl => ?_)
        refine lv_iconst (v := 0) hx hb dL_instances_108 (by decide) ?_
        refine lv_istore (lv' := [(8, .int 0), (5, .int 1), (0, .ref (E.2.1 0)), (1, .int x1), (2, .int x2), (3, .int x3), (4, .int x4), (6, .int x6), (7, .int x7)]) hx hb dL_instances_109 hl (by decide) rfl (fun ls hl => ?_)
        exact B111 K52 hK52 fu a x1 x2 x3 x4 1 x6 0 _ _ _ hP hS (lv_sub hl [2, 3, 4, 5, 6, 1, 7, 0] rfl) hf
  have B52 : ∀ (n : Nat) (a : xA) (x1 : Int32) (x2 : Int32) (x3 : Int32) (x4 : Int32) (x5 : Int32) (x6 : Int32) (H : Heap) (locs : List Loc) (ls : Array Slot), va_P E.1 vwCl (wX E g a) H → va_S A s.heap H locs → lv_has ls 11 [(0, .ref (E.2.1 0)), (1, .int x1), (2, .int x2), (3, .int x3), (4, .int x4), (5, .int x5), (6, .int x6)] → f_L_instances_52 g n a x1 x2 x3 x4 x5 x6 = some res → W p l e ({ frames := 16, cells := 0, slots := 0, locals := 366 }) s m ([.ref (E.2.1 0), .int v1, .int v2] : List Value).toArray below meth c H locs 0 0 (MQ below ((xQi E res.1 (wX E g res.2)) A) ([.ref (E.2.1 0), .int v1, .int v2] : List Value).toArray s 0 0 A) (F0 m 52 ls []) := by
    intro n
    induction n with
    | zero => intro a x1 x2 x3 x4 x5 x6 H locs ls hP hS hl hf; exact absurd (show (none : Option (Int32 × xA)) = some res from hf) (by intro h; cases h)
    | succ n ih =>
      intro a x1 x2 x3 x4 x5 x6 H locs ls hP hS hl hf
      replace hf := (e_L_instances_52 g n a x1 x2 x3 x4 x5 x6).symm.trans hf
      refine lv_iload hx hb dL_instances_52 (lv_at hl 6 rfl) ?_
      refine lv_iload_n hx hb dL_instances_54 rfl (lv_at hl 2 rfl) ?_
      refine lv_icmp_ge (tgt := 222) hx hb dL_instances_55 (by decide) (fun c11 => ?_) (fun c11 => ?_)
      · replace hf := (if_pos c11).symm.trans hf
        refine lv_iload hx hb dL_instances_222 (lv_at hl 5 rfl) ?_
        obtain ⟨k12, hf⟩ := ck_some hf
        exact xz_retS (fr := (fun r => r.1)) (fw := (fun r => wX E g r.2)) hx hb hr hlocks (Option.some.inj hf) (boB_bo k12) hP hS dL_instances_224
      · replace hf := (if_neg c11).symm.trans hf
        refine lv_iload hx hb dL_instances_58 (lv_at hl 5 rfl) ?_
        refine lv_if_eq (tgt := 222) hx hb dL_instances_60 (by decide) (fun c13 => ?_) (fun c13 => ?_)
        · replace hf := (if_pos c13).symm.trans hf
          refine lv_iload hx hb dL_instances_222 (lv_at hl 5 rfl) ?_
          obtain ⟨k14, hf⟩ := ck_some hf
          exact xz_retS (fr := (fun r => r.1)) (fw := (fun r => wX E g r.2)) hx hb hr hlocks (Option.some.inj hf) (boB_bo k14) hP hS dL_instances_224
        · replace hf := (if_neg c13).symm.trans hf
          refine lv_aload_n hx hb dL_instances_63 rfl (lv_at hl 0 rfl) ?_
          refine lv_iload hx hb dL_instances_64 (lv_at hl 6 rfl) ?_
          obtain ⟨u15, e16, hf⟩ := bd_some hf
          refine xci (xRunV (rest := []) (As := [.int x6]) (C := RX11) (k := 1) C0 (cr_X11_left l E g a x6 (rgt_some e16)) bw723 bw826 bw13 bw827 bw828 hd_X11_left ⟨Nat.le_of_ble_eq_true rfl, Nat.le_of_ble_eq_true rfl⟩ hP (wX_D hD) hS (va_recv hK hP (ci := 11) rfl (gx_0 E g a)) rfl hl.1 rfl (Nat.le_of_ble_eq_true rfl) dL_instances_66 ⟨Nat.zero_le _, Nat.zero_le _⟩) hS (fun H locs hP hS => ?_)
          refine lv_istore (lv' := [(7, .int u15.1), (0, .ref (E.2.1 0)), (1, .int x1), (2, .int x2), (3, .int x3), (4, .int x4), (5, .int x5), (6, .int x6)]) hx hb dL_instances_69 hl (by decide) rfl (fun ls hl => ?_)
          refine lv_iload hx hb dL_instances_71 (lv_at hl 0 rfl) ?_
          refine lv_if_ne (tgt := 80) hx hb dL_instances_73 (by decide) (fun c17 => ?_) (fun c17 => ?_)
          · replace hf := (if_neg c17).symm.trans hf
            exact B80 (f_L_instances_52 g n) ih u15.2 x1 x2 x3 x4 x6 u15.1 _ _ _ hP hS (lv_sub hl [1, 2, 3, 4, 5, 7, 0] rfl) hf
          · replace hf := (if_pos c17).symm.trans hf
            refine lv_iload_n hx hb dL_instances_76 rfl (lv_at hl 4 rfl) ?_
            refine lv_if_ne (tgt := 105) hx hb dL_instances_77 (by decide) (fun c18 => ?_) (fun c18 => ?_)
            · replace hf := (if_neg c18).symm.trans hf
              refine lv_iconst (v := 0) hx hb dL_instances_105 (by decide) ?_
              refine lv_istore (lv' := [(5, .int 0), (7, .int u15.1), (0, .ref (E.2.1 0)), (1, .int x1), (2, .int x2), (3, .int x3), (4, .int x4), (6, .int x6)]) hx hb dL_instances_106 hl (by decide) rfl (fun ls hl => ?_)
              refine lv_iconst (v := 0) hx hb dL_instances_108 (by decide) ?_
              refine lv_istore (lv' := [(8, .int 0), (5, .int 0), (7, .int u15.1), (0, .ref (E.2.1 0)), (1, .int x1), (2, .int x2), (3, .int x3), (4, .int x4), (6, .int x6)]) hx hb dL_instances_109 hl (by decide) rfl (fun ls hl => ?_)
              exact B111 (f_L_instances_52 g n) ih fu u15.2 x1 x2 x3 x4 0 x6 0 _ _ _ hP hS (lv_sub hl [3, 4, 5, 6, 7, 1, 8, 0] rfl) hf
            · replace hf := (if_pos c18).symm.trans hf
              exact B80 (f_L_instances_52 g n) ih u15.2 x1 x2 x3 x4 x6 u15.1 _ _ _ hP hS (lv_sub hl [1, 2, 3, 4, 5, 7, 0] rfl) hf
  have B39 : ∀ (a : xA) (x1 : Int32) (x2 : Int32) (x3 : Int32) (x4 : Int32) (s0 : Int32) (s1 : Int32) (H : Heap) (locs : List Loc) (ls : Array Slot), va_P E.1 vwCl (wX E g a) H → va_S A s.heap H locs → lv_has ls 11 [(0, .ref (E.2.1 0)), (1, .int x1), (2, .int x2), (3, .int x3), (4, .int x4)] → f_L_instances_39 g a x1 x2 x3 x4 s0 s1 = some res → W p l e ({ frames := 16, cells := 0, slots := 0, locals := 366 }) s m ([.ref (E.2.1 0), .int v1, .int v2] : List Value).toArray below meth c H locs 0 0 (MQ below ((xQi E res.1 (wX E g res.2)) A) ([.ref (E.2.1 0), .int v1, .int v2] : List Value).toArray s 0 0 A) (F0 m 39 ls [.int s0, .int s1]) := by
    intro a x1 x2 x3 x4 s0 s1 H locs ls hP hS hl hf
    unfold f_L_instances_39 at hf
    refine lv_icmp_ne (tgt := 46) hx hb dL_instances_39 (by decide) (fun c10 => ?_) (fun c10 => ?_)
    · replace hf := (if_neg c10).symm.trans hf
      refine lv_iconst (v := 0) hx hb dL_instances_46 (by decide) ?_
      refine lv_istore (lv' := [(5, .int 0), (0, .ref (E.2.1 0)), (1, .int x1), (2, .int x2), (3, .int x3), (4, .int x4)]) hx hb dL_instances_47 hl (by decide) rfl (fun ls hl => ?_)
      refine lv_iconst (v := 0) hx hb dL_instances_49 (by decide) ?_
      refine lv_istore (lv' := [(6, .int 0), (5, .int 0), (0, .ref (E.2.1 0)), (1, .int x1), (2, .int x2), (3, .int x3), (4, .int x4)]) hx hb dL_instances_50 hl (by decide) rfl (fun ls hl => ?_)
      exact B52 fu a x1 x2 x3 x4 0 0 _ _ _ hP hS (lv_sub hl [2, 3, 4, 5, 6, 1, 0] rfl) hf
    · replace hf := (if_pos c10).symm.trans hf
      refine lv_iconst (v := 1) hx hb dL_instances_42 (by decide) ?_
      refine lv_goto (tgt := 47) hx hb dL_instances_43 (by decide) ?_
      refine lv_istore (lv' := [(5, .int 1), (0, .ref (E.2.1 0)), (1, .int x1), (2, .int x2), (3, .int x3), (4, .int x4)]) hx hb dL_instances_47 hl (by decide) rfl (fun ls hl => ?_)
      refine lv_iconst (v := 0) hx hb dL_instances_49 (by decide) ?_
      refine lv_istore (lv' := [(6, .int 0), (5, .int 1), (0, .ref (E.2.1 0)), (1, .int x1), (2, .int x2), (3, .int x3), (4, .int x4)]) hx hb dL_instances_50 hl (by decide) rfl (fun ls hl => ?_)
      exact B52 fu a x1 x2 x3 x4 1 0 _ _ _ hP hS (lv_sub hl [2, 3, 4, 5, 6, 1, 0] rfl) hf
  have B28 : ∀ (a : xA) (x1 : Int32) (x2 : Int32) (x3 : Int32) (x4 : Int32) (s0 : Int32) (H : Heap) (locs : List Loc) (ls : Array Slot), va_P E.1 vwCl (wX E g a) H → va_S A s.heap H locs → lv_has ls 11 [(0, .ref (E.2.1 0)), (1, .int x1), (2, .int x2), (3, .int x3), (4, .int x4)] → f_L_instances_28 g a x1 x2 x3 x4 s0 = some res → W p l e ({ frames := 16, cells := 0, slots := 0, locals := 366 }) s m ([.ref (E.2.1 0), .int v1, .int v2] : List Value).toArray below meth c H locs 0 0 (MQ below ((xQi E res.1 (wX E g res.2)) A) ([.ref (E.2.1 0), .int v1, .int v2] : List Value).toArray s 0 0 A) (F0 m 28 ls [.int s0]) := by
    intro a x1 x2 x3 x4 s0 H locs ls hP hS hl hf
    unfold f_L_instances_28 at hf
    refine lv_iload hx hb dL_instances_28 (lv_at hl 4 rfl) ?_
    refine lv_iconst (v := (-1)) hx hb dL_instances_30 (by decide) ?_
    refine lv_icmp_ne (tgt := 38) hx hb dL_instances_31 (by decide) (fun c9 => ?_) (fun c9 => ?_)
    · replace hf := (if_neg c9).symm.trans hf
      refine lv_iconst (v := 0) hx hb dL_instances_38 (by decide) ?_
      exact B39 a x1 x2 x3 x4 0 s0 _ _ _ hP hS (lv_sub hl [0, 1, 2, 3, 4] rfl) hf
    · replace hf := (if_pos c9).symm.trans hf
      refine lv_iconst (v := 1) hx hb dL_instances_34 (by decide) ?_
      refine lv_goto (tgt := 39) hx hb dL_instances_35 (by decide) ?_
      exact B39 a x1 x2 x3 x4 1 s0 _ _ _ hP hS (lv_sub hl [0, 1, 2, 3, 4] rfl) hf
  refine lv_aload_n hx hb dL_instances_0 rfl (lv_at hl 0 rfl) ?_
  obtain ⟨u1, e2, hf⟩ := bd_some hf
  refine xci (xRunV (rest := []) (As := []) (C := RX11) (k := 0) C0 (c_X11_solutions l E g a e2) bw711 bw817 bw13 bw818 bw819 hd_X11_solutions ⟨Nat.le_of_ble_eq_true rfl, Nat.le_of_ble_eq_true rfl⟩ hP (wX_D hD) hS (va_recv hK hP (ci := 11) rfl (gx_0 E g a)) rfl hl.1 rfl (Nat.le_of_ble_eq_true rfl) dL_instances_1 ⟨Nat.zero_le _, Nat.zero_le _⟩) hS (fun H locs hP hS => ?_)
  refine lv_istore_n (lv' := [(3, .int u1.1), (0, .ref (E.2.1 0)), (1, .int v1), (2, .int v2)]) hx hb dL_instances_4 rfl hl (by decide) rfl (fun ls hl => ?_)
  refine lv_aload_n hx hb dL_instances_5 rfl (lv_at hl 1 rfl) ?_
  obtain ⟨u3, e4, hf⟩ := bd_some hf
  refine xci (xRunV (rest := []) (As := []) (C := RX11) (k := 0) C0 (c_X11_solve l E g u1.2 e4) bw719 bw820 bw13 bw821 bw822 hd_X11_solve ⟨Nat.le_of_ble_eq_true rfl, Nat.le_of_ble_eq_true rfl⟩ hP (wX_D hD) hS (va_recv hK hP (ci := 11) rfl (gx_0 E g u1.2)) rfl hl.1 rfl (Nat.le_of_ble_eq_true rfl) dL_instances_6 ⟨Nat.zero_le _, Nat.zero_le _⟩) hS (fun H locs hP hS => ?_)
  refine lv_istore (lv' := [(4, .int u3.1), (3, .int u1.1), (0, .ref (E.2.1 0)), (1, .int v1), (2, .int v2)]) hx hb dL_instances_9 hl (by decide) rfl (fun ls hl => ?_)
  refine lv_iload_n hx hb dL_instances_11 rfl (lv_at hl 1 rfl) ?_
  refine lv_aload_n hx hb dL_instances_12 rfl (lv_at hl 2 rfl) ?_
  obtain ⟨u5, e6, hf⟩ := bd_some hf
  refine xci (xRunV (rest := [.int u1.1]) (As := []) (C := RX11) (k := 0) C0 (c_X11_solutionsAnew l E g u3.2 e6) bw715 bw823 bw13 bw824 bw825 hd_X11_solutionsAnew ⟨Nat.le_of_ble_eq_true rfl, Nat.le_of_ble_eq_true rfl⟩ hP (wX_D hD) hS (va_recv hK hP (ci := 11) rfl (gx_0 E g u3.2)) rfl hl.1 rfl (Nat.le_of_ble_eq_true rfl) dL_instances_13 ⟨Nat.zero_le _, Nat.zero_le _⟩) hS (fun H locs hP hS => ?_)
  refine lv_icmp_ne (tgt := 46) hx hb dL_instances_16 (by decide) (fun c7 => ?_) (fun c7 => ?_)
  · replace hf := (if_neg c7).symm.trans hf
    refine lv_iconst (v := 0) hx hb dL_instances_46 (by decide) ?_
    refine lv_istore (lv' := [(5, .int 0), (4, .int u3.1), (3, .int u1.1), (0, .ref (E.2.1 0)), (1, .int v1), (2, .int v2)]) hx hb dL_instances_47 hl (by decide) rfl (fun ls hl => ?_)
    refine lv_iconst (v := 0) hx hb dL_instances_49 (by decide) ?_
    refine lv_istore (lv' := [(6, .int 0), (5, .int 0), (4, .int u3.1), (3, .int u1.1), (0, .ref (E.2.1 0)), (1, .int v1), (2, .int v2)]) hx hb dL_instances_50 hl (by decide) rfl (fun ls hl => ?_)
    exact B52 fu u5.2 v1 v2 u1.1 u3.1 0 0 _ _ _ hP hS (lv_sub hl [4, 5, 6, 3, 2, 1, 0] rfl) hf
  · replace hf := (if_pos c7).symm.trans hf
    refine lv_iload_n hx hb dL_instances_19 rfl (lv_at hl 1 rfl) ?_
    refine lv_if_ne (tgt := 27) hx hb dL_instances_20 (by decide) (fun c8 => ?_) (fun c8 => ?_)
    · replace hf := (if_neg c8).symm.trans hf
      refine lv_iconst (v := 0) hx hb dL_instances_27 (by decide) ?_
      exact B28 u5.2 v1 v2 u1.1 u3.1 0 _ _ _ hP hS (lv_sub hl [2, 3, 4, 1, 0] rfl) hf
    · replace hf := (if_pos c8).symm.trans hf
      refine lv_iconst (v := 1) hx hb dL_instances_23 (by decide) ?_
      refine lv_goto (tgt := 28) hx hb dL_instances_24 (by decide) ?_
      exact B28 u5.2 v1 v2 u1.1 u3.1 1 _ _ _ hP hS (lv_sub hl [2, 3, 4, 1, 0] rfl) hf
def f_L_keepsAll_5 : Nat → xG → xA → Int32 → Int32 → Int32 → Int32 → Option (Int32 × xG × xA)
  | 0, _, _, _, _, _, _ => none
  | n + 1, g, a, x1, x2, x3, x4 => (if x2 ≤ x4 then ck (boB x3) (some (x3, g, a)) else (if x3 = 0 then f_L_keepsAll_5 n g a x1 x2 0 (x4 + 1) else Option.bind (rgt (f_X11_keeps g a x1 x4)) (fun u4 => (if u4.1 = 0 then f_L_keepsAll_5 n u4.2.1 u4.2.2 x1 x2 0 (x4 + 1) else f_L_keepsAll_5 n u4.2.1 u4.2.2 x1 x2 1 (x4 + 1)))))
theorem e_L_keepsAll_5 (n : Nat) (g : xG) (a : xA) (x1 : Int32) (x2 : Int32) (x3 : Int32) (x4 : Int32) : f_L_keepsAll_5 (n + 1) g a x1 x2 x3 x4 = (if x2 ≤ x4 then ck (boB x3) (some (x3, g, a)) else (if x3 = 0 then f_L_keepsAll_5 n g a x1 x2 0 (x4 + 1) else Option.bind (rgt (f_X11_keeps g a x1 x4)) (fun u4 => (if u4.1 = 0 then f_L_keepsAll_5 n u4.2.1 u4.2.2 x1 x2 0 (x4 + 1) else f_L_keepsAll_5 n u4.2.1 u4.2.2 x1 x2 1 (x4 + 1))))) := rfl
def f_L_keepsAll (g : xG) (a : xA) (v1 : Int32) (v2 : Int32) : Option (Int32 × xG × xA) := f_L_keepsAll_5 fu g a v1 v2 1 0
set_option maxRecDepth 100000 in
set_option maxHeartbeats 40000000 in
theorem c_L_keepsAll (l : Launch) (E : xE) (g : xG) (a : xA) (v1 : Int32) (v2 : Int32) {res : Int32 × xG × xA} (hf : f_L_keepsAll g a v1 v2 = some res) : xM l E yL_keepsAll cL_keepsAll 5 (some .boolean) 6 138 [.ref (E.2.1 0), .int v1, .int v2] (wX E g a) (xQi E res.1 (wX E res.2.1 res.2.2)) := by
  unfold f_L_keepsAll at hf
  refine xM_of (by decide) (Nat.le_of_ble_eq_true rfl) ?_
  intro p e s m below meth c A hx hb hr hml hts hown hlocks hA hD hP hK hN hS ls hl
  have hw : ∀ w ∈ BW, w.before _ s = true := fun w h => hts w (List.mem_cons_of_mem _ h)
  have C0 : xCtx E p m c cL_keepsAll 5 s _ RL A yL_keepsAll cL_keepsAll 5 (some .boolean) := ⟨hx, hb, hml, hown, hts, hA, hK, hN⟩
  have hl : lv_has ls 5 [(0, .ref (E.2.1 0)), (1, .int v1), (2, .int v2)] := hl
  have B5 : ∀ (n : Nat) (g : xG) (a : xA) (x1 : Int32) (x2 : Int32) (x3 : Int32) (x4 : Int32) (H : Heap) (locs : List Loc) (ls : Array Slot), va_P E.1 vwCl (wX E g a) H → va_S A s.heap H locs → lv_has ls 5 [(0, .ref (E.2.1 0)), (1, .int x1), (2, .int x2), (3, .int x3), (4, .int x4)] → f_L_keepsAll_5 n g a x1 x2 x3 x4 = some res → W p l e ({ frames := 6, cells := 0, slots := 0, locals := 138 }) s m ([.ref (E.2.1 0), .int v1, .int v2] : List Value).toArray below meth c H locs 0 0 (MQ below ((xQi E res.1 (wX E res.2.1 res.2.2)) A) ([.ref (E.2.1 0), .int v1, .int v2] : List Value).toArray s 0 0 A) (F0 m 5 ls []) := by
    intro n
    induction n with
    | zero => intro g a x1 x2 x3 x4 H locs ls hP hS hl hf; exact absurd (show (none : Option (Int32 × xG × xA)) = some res from hf) (by intro h; cases h)
    | succ n ih =>
      intro g a x1 x2 x3 x4 H locs ls hP hS hl hf
      replace hf := (e_L_keepsAll_5 n g a x1 x2 x3 x4).symm.trans hf
      refine lv_iload hx hb dL_keepsAll_5 (lv_at hl 4 rfl) ?_
      refine lv_iload_n hx hb dL_keepsAll_7 rfl (lv_at hl 2 rfl) ?_
      refine lv_icmp_ge (tgt := 37) hx hb dL_keepsAll_8 (by decide) (fun c1 => ?_) (fun c1 => ?_)
      · replace hf := (if_pos c1).symm.trans hf
        refine lv_iload_n hx hb dL_keepsAll_37 rfl (lv_at hl 3 rfl) ?_
        obtain ⟨k2, hf⟩ := ck_some hf
        exact xz_retS (fr := (fun r => r.1)) (fw := (fun r => wX E r.2.1 r.2.2)) hx hb hr hlocks (Option.some.inj hf) (boB_bo k2) hP hS dL_keepsAll_38
      · replace hf := (if_neg c1).symm.trans hf
        refine lv_iload_n hx hb dL_keepsAll_11 rfl (lv_at hl 3 rfl) ?_
        refine lv_if_eq (tgt := 29) hx hb dL_keepsAll_12 (by decide) (fun c3 => ?_) (fun c3 => ?_)
        · replace hf := (if_pos c3).symm.trans hf
          refine lv_iconst (v := 0) hx hb dL_keepsAll_29 (by decide) ?_
          refine lv_istore_n (lv' := [(3, .int 0), (0, .ref (E.2.1 0)), (1, .int x1), (2, .int x2), (4, .int x4)]) hx hb dL_keepsAll_30 rfl hl (by decide) rfl (fun ls hl => ?_)
          refine lv_iinc (v := (x4 + 1)) (lv' := [(4, .int (x4 + 1)), (3, .int 0), (0, .ref (E.2.1 0)), (1, .int x1), (2, .int x2)]) hx hb dL_keepsAll_31 hl (k := 4) rfl rfl (by decide) rfl (fun ls hl => ?_)
          refine lv_goto (tgt := 5) hx hb dL_keepsAll_34 (by decide) ?_
          exact ih g a x1 x2 0 (x4 + 1) _ _ _ hP hS (lv_sub hl [2, 3, 4, 1, 0] rfl) hf
        · replace hf := (if_neg c3).symm.trans hf
          refine lv_aload_n hx hb dL_keepsAll_15 rfl (lv_at hl 0 rfl) ?_
          refine lv_iload_n hx hb dL_keepsAll_16 rfl (lv_at hl 1 rfl) ?_
          refine lv_iload hx hb dL_keepsAll_17 (lv_at hl 4 rfl) ?_
          obtain ⟨u4, e5, hf⟩ := bd_some hf
          refine xci (xRunV (rest := []) (As := [.int x1, .int x4]) (C := RX11) (k := 2) C0 (cr_X11_keeps l E g a x1 x4 (rgt_some e5)) bw634 bw791 bw13 bw792 bw793 hd_X11_keeps ⟨Nat.le_of_ble_eq_true rfl, Nat.le_of_ble_eq_true rfl⟩ hP (wX_D hD) hS (va_recv hK hP (ci := 11) rfl (gx_0 E g a)) rfl hl.1 rfl (Nat.le_of_ble_eq_true rfl) dL_keepsAll_19 ⟨Nat.zero_le _, Nat.zero_le _⟩) hS (fun H locs hP hS => ?_)
          refine lv_if_eq (tgt := 29) hx hb dL_keepsAll_22 (by decide) (fun c6 => ?_) (fun c6 => ?_)
          · replace hf := (if_pos c6).symm.trans hf
            refine lv_iconst (v := 0) hx hb dL_keepsAll_29 (by decide) ?_
            refine lv_istore_n (lv' := [(3, .int 0), (0, .ref (E.2.1 0)), (1, .int x1), (2, .int x2), (4, .int x4)]) hx hb dL_keepsAll_30 rfl hl (by decide) rfl (fun ls hl => ?_)
            refine lv_iinc (v := (x4 + 1)) (lv' := [(4, .int (x4 + 1)), (3, .int 0), (0, .ref (E.2.1 0)), (1, .int x1), (2, .int x2)]) hx hb dL_keepsAll_31 hl (k := 4) rfl rfl (by decide) rfl (fun ls hl => ?_)
            refine lv_goto (tgt := 5) hx hb dL_keepsAll_34 (by decide) ?_
            exact ih u4.2.1 u4.2.2 x1 x2 0 (x4 + 1) _ _ _ hP hS (lv_sub hl [2, 3, 4, 1, 0] rfl) hf
          · replace hf := (if_neg c6).symm.trans hf
            refine lv_iconst (v := 1) hx hb dL_keepsAll_25 (by decide) ?_
            refine lv_goto (tgt := 30) hx hb dL_keepsAll_26 (by decide) ?_
            refine lv_istore_n (lv' := [(3, .int 1), (0, .ref (E.2.1 0)), (1, .int x1), (2, .int x2), (4, .int x4)]) hx hb dL_keepsAll_30 rfl hl (by decide) rfl (fun ls hl => ?_)
            refine lv_iinc (v := (x4 + 1)) (lv' := [(4, .int (x4 + 1)), (3, .int 1), (0, .ref (E.2.1 0)), (1, .int x1), (2, .int x2)]) hx hb dL_keepsAll_31 hl (k := 4) rfl rfl (by decide) rfl (fun ls hl => ?_)
            refine lv_goto (tgt := 5) hx hb dL_keepsAll_34 (by decide) ?_
            exact ih u4.2.1 u4.2.2 x1 x2 1 (x4 + 1) _ _ _ hP hS (lv_sub hl [2, 3, 4, 1, 0] rfl) hf
  refine lv_iconst (v := 1) hx hb dL_keepsAll_0 (by decide) ?_
  refine lv_istore_n (lv' := [(3, .int 1), (0, .ref (E.2.1 0)), (1, .int v1), (2, .int v2)]) hx hb dL_keepsAll_1 rfl hl (by decide) rfl (fun ls hl => ?_)
  refine lv_iconst (v := 0) hx hb dL_keepsAll_2 (by decide) ?_
  refine lv_istore (lv' := [(4, .int 0), (3, .int 1), (0, .ref (E.2.1 0)), (1, .int v1), (2, .int v2)]) hx hb dL_keepsAll_3 hl (by decide) rfl (fun ls hl => ?_)
  exact B5 fu g a v1 v2 1 0 _ _ _ hP hS (lv_sub hl [2, 3, 4, 1, 0] rfl) hf
