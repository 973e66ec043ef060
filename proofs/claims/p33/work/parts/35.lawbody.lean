/-! The law itself, from behind the making of the object. -/
def f_L_law_143 (L : Nat) (xs : Nat → Int32) (K70 : xG → xA → Int32 → Int32 → Int32 → Int32 → Int32 → Int32 → Int32 → Option (Int32)) (g : xG) (a : xA) (x2 : Int32) (x3 : Int32) (x4 : Int32) (x5 : Int32) (x6 : Int32) (x7 : Int32) (x8 : Int32) (s0 : Int32) (s1 : Int32) (s2 : Int32) : Option (Int32) := ck (inB x8 41) (Option.bind (f_L_puts g a s2 s1 s0) (fun u48 => K70 u48.2.1 u48.2.2 x2 x3 x4 x5 x6 x7 (x8 + 1)))
def f_L_law_293 (L : Nat) (xs : Nat → Int32) (K70 : xG → xA → Int32 → Int32 → Int32 → Int32 → Int32 → Int32 → Int32 → Option (Int32)) (g : xG) (a : xA) (x2 : Int32) (x3 : Int32) (x4 : Int32) (x5 : Int32) (x7 : Int32) (x8 : Int32) (x11 : Int32) (s0 : Int32) : Option (Int32) := ck (inB x8 41) ((if s0 = 0 then K70 g a x2 x3 x4 x5 s0 x7 (x8 + 1) else K70 g a x2 x11 x4 x5 s0 x7 (x8 + 1)))
def f_L_law_434 (L : Nat) (xs : Nat → Int32) (K70 : xG → xA → Int32 → Int32 → Int32 → Int32 → Int32 → Int32 → Int32 → Option (Int32)) (g : xG) (a : xA) (x2 : Int32) (x3 : Int32) (x4 : Int32) (x5 : Int32) (x7 : Int32) (x8 : Int32) (s0 : Int32) (s1 : Int32) (s2 : Int32) (s3 : Int32) : Option (Int32) := ck (inB x8 41) (Option.bind (f_L_constrains g a s3 s2 s1 s0) (fun u86 => (if u86.1 = (-9) then K70 u86.2.1 u86.2.2 x2 x3 x4 x5 1 x7 (x8 + 1) else (if u86.1 ≤ 0 then K70 u86.2.1 u86.2.2 x2 x3 x4 x5 0 x7 (x8 + 1) else K70 u86.2.1 u86.2.2 x2 x3 x4 x5 1 x7 (x8 + 1)))))
def f_L_law_414 (L : Nat) (xs : Nat → Int32) (K70 : xG → xA → Int32 → Int32 → Int32 → Int32 → Int32 → Int32 → Int32 → Option (Int32)) (g : xG) (a : xA) (x2 : Int32) (x3 : Int32) (x4 : Int32) (x5 : Int32) (x7 : Int32) (x8 : Int32) (x9 : Int32) (x12 : Int32) (s0 : Int32) (s1 : Int32) (s2 : Int32) : Option (Int32) := ck (inB x8 41) ((if x12 ≤ 2 then f_L_law_434 L xs K70 g a x2 x3 x4 x5 x7 x8 (-1) s0 s1 s2 else Option.bind (f_L_low g a ((x9 : Int32) >>> ((11 : Int32) &&& 31)) x5) (fun u83 => f_L_law_434 L xs K70 g a x2 x3 x4 x5 x7 x8 u83 s0 s1 s2)))
def f_L_law_263 (L : Nat) (xs : Nat → Int32) (K70 : xG → xA → Int32 → Int32 → Int32 → Int32 → Int32 → Int32 → Int32 → Option (Int32)) (g : xG) (a : xA) (x2 : Int32) (x3 : Int32) (x4 : Int32) (x5 : Int32) (x7 : Int32) (x8 : Int32) (x9 : Int32) (x10 : Int32) : Option (Int32) := ck (inB x8 41) ((if x10 = 7 then Option.bind (f_L_formula g a ((x9 : Int32) >>> ((4 : Int32) &&& 31)) x3 x4) (fun u76 => (if u76.1 ≤ 0 then f_L_law_293 L xs K70 u76.2.1 u76.2.2 x2 x3 x4 x5 x7 x8 u76.1 0 else f_L_law_293 L xs K70 u76.2.1 u76.2.2 x2 x3 x4 x5 x7 x8 u76.1 1)) else (if x10 = 8 then Option.bind (f_L_low g a ((x9 : Int32) >>> ((4 : Int32) &&& 31)) 3) (fun u68 => Option.bind (rgt (f_X11_instance g a (2 + u68))) (fun u70 => (if u70.1 < 0 then K70 u70.2 a x2 x3 x4 (2 + u68) 0 x7 (x8 + 1) else Option.bind (f_X11_solve u70.2 a) (fun u73 => (if u73.1 = 0 then K70 u70.2 u73.2 x2 x3 x4 (2 + u68) 1 x7 (x8 + 1) else K70 u70.2 u73.2 x2 x3 x4 (2 + u68) 0 x7 (x8 + 1)))))) else (if 11 ≤ x10 then (if x10 = 11 then Option.bind (f_L_relations g a x3 x4) (fun u57 => K70 u57.2.1 u57.2.2 x2 x3 x4 x5 u57.1 x7 (x8 + 1)) else Option.bind (f_L_instances g a x2 x5) (fun u55 => K70 g u55.2 x2 x3 x4 x5 u55.1 x7 (x8 + 1))) else Option.bind (f_L_low g a ((x9 : Int32) >>> ((4 : Int32) &&& 31)) x3) (fun u59 => Option.bind (rgt (f_X11_ofRelation g a u59 0)) (fun u61 => Option.bind (f_L_low g a ((x9 : Int32) >>> ((7 : Int32) &&& 31)) x5) (fun u63 => (if u61 ≤ 1 then f_L_law_414 L xs K70 g a x2 x3 x4 x5 x7 x8 x9 u61 (-1) u63 u59 else Option.bind (f_L_low g a ((x9 : Int32) >>> ((9 : Int32) &&& 31)) x5) (fun u66 => f_L_law_414 L xs K70 g a x2 x3 x4 x5 x7 x8 x9 u61 u66 u63 u59)))))))))
def f_L_law_493 (L : Nat) (xs : Nat → Int32) (g : xG) (a : xA) (x2 : Int32) (x3 : Int32) (x4 : Int32) (x5 : Int32) (x6 : Int32) : Option (Int32) := (if x6 = 0 then some 0 else Option.bind (f_L_relations g a x3 x4) (fun u91 => (if u91.1 = 0 then some 0 else Option.bind (f_L_surrounded u91.2.1 u91.2.2 x3) (fun u94 => (if u94.1 = 0 then some 0 else Option.bind (f_L_templates u94.2.1 u94.2.2 x2) (fun u97 => (if u97.1 = 0 then some 0 else Option.bind (f_L_instances u97.2.1 u97.2.2 x2 x5) (fun u100 => (if u100.1 = 0 then some 0 else Option.bind (f_L_ends u97.2.1 u100.2 97) (fun u103 => (if u103.1 < (-9) then some 0 else some 1)))))))))))
def f_L_law_70 (L : Nat) (xs : Nat → Int32) : Nat → xG → xA → Int32 → Int32 → Int32 → Int32 → Int32 → Int32 → Int32 → Option (Int32)
  | 0, _, _, _, _, _, _, _, _, _ => none
  | n + 1, g, a, x2, x3, x4, x5, x6, x7, x8 => ck (inB x8 41) ((if x7 ≤ x8 then f_L_law_493 L xs g a x2 x3 x4 x5 x6 else (if x6 = 0 then f_L_law_493 L xs g a x2 x3 x4 x5 x6 else ck (inB (2 + x8) 300) (Option.bind (f_L_low g a (cellF L xs (2 + x8)) 13) (fun u17 => (if 4 ≤ u17 then (if u17 = 4 then Option.bind (f_L_low g a (((cellF L xs (2 + x8)) : Int32) >>> ((4 : Int32) &&& 31)) 3) (fun u35 => Option.bind (f_L_relates g a (1 + u35)) (fun u37 => (if u37.1 < 0 then f_L_law_70 L xs n u37.2.1 u37.2.2 x2 x3 x4 x5 x6 x7 (x8 + 1) else f_L_law_70 L xs n u37.2.1 u37.2.2 x2 (x3 + 1) x4 x5 x6 x7 (x8 + 1)))) else (if u17 = 5 then Option.bind (f_L_takes g a (((cellF L xs (2 + x8)) : Int32) >>> ((4 : Int32) &&& 31))) (fun u32 => (if u32.1 < 0 then f_L_law_70 L xs n u32.2.1 u32.2.2 x2 x3 x4 x5 x6 x7 (x8 + 1) else f_L_law_70 L xs n u32.2.1 u32.2.2 x2 x3 (x4 + 1) x5 x6 x7 (x8 + 1))) else (if u17 = 6 then (if x4 ≤ 0 then f_L_law_263 L xs (f_L_law_70 L xs n) g a x2 x3 x4 x5 x7 x8 (cellF L xs (2 + x8)) u17 else Option.bind (f_L_low g a (((cellF L xs (2 + x8)) : Int32) >>> ((4 : Int32) &&& 31)) x4) (fun u24 => Option.bind (f_L_low g a (((cellF L xs (2 + x8)) : Int32) >>> ((7 : Int32) &&& 31)) 9) (fun u26 => Option.bind (f_L_low g a (((cellF L xs (2 + x8)) : Int32) >>> ((11 : Int32) &&& 31)) x2) (fun u28 => Option.bind (f_L_tells g a u24 u26 u28) (fun u30 => f_L_law_70 L xs n u30.2.1 u30.2.2 x2 x3 x4 x5 x6 x7 (x8 + 1)))))) else f_L_law_263 L xs (f_L_law_70 L xs n) g a x2 x3 x4 x5 x7 x8 (cellF L xs (2 + x8)) u17))) else Option.bind (f_L_low g a (((cellF L xs (2 + x8)) : Int32) >>> ((4 : Int32) &&& 31)) x3) (fun u40 => Option.bind (f_L_low g a (((cellF L xs (2 + x8)) : Int32) >>> ((7 : Int32) &&& 31)) 9) (fun u42 => Option.bind (f_L_low g a (((cellF L xs (2 + x8)) : Int32) >>> ((11 : Int32) &&& 31)) 4) (fun u44 => (if u44 ≤ 0 then f_L_law_143 L xs (f_L_law_70 L xs n) g a x2 x3 x4 x5 x6 x7 x8 0 u42 u40 else f_L_law_143 L xs (f_L_law_70 L xs n) g a x2 x3 x4 x5 x6 x7 x8 1 u42 u40))))))))))
theorem e_L_law_70 (L : Nat) (xs : Nat → Int32) (n : Nat) (g : xG) (a : xA) (x2 : Int32) (x3 : Int32) (x4 : Int32) (x5 : Int32) (x6 : Int32) (x7 : Int32) (x8 : Int32) : f_L_law_70 L xs (n + 1) g a x2 x3 x4 x5 x6 x7 x8 = ck (inB x8 41) ((if x7 ≤ x8 then f_L_law_493 L xs g a x2 x3 x4 x5 x6 else (if x6 = 0 then f_L_law_493 L xs g a x2 x3 x4 x5 x6 else ck (inB (2 + x8) 300) (Option.bind (f_L_low g a (cellF L xs (2 + x8)) 13) (fun u17 => (if 4 ≤ u17 then (if u17 = 4 then Option.bind (f_L_low g a (((cellF L xs (2 + x8)) : Int32) >>> ((4 : Int32) &&& 31)) 3) (fun u35 => Option.bind (f_L_relates g a (1 + u35)) (fun u37 => (if u37.1 < 0 then f_L_law_70 L xs n u37.2.1 u37.2.2 x2 x3 x4 x5 x6 x7 (x8 + 1) else f_L_law_70 L xs n u37.2.1 u37.2.2 x2 (x3 + 1) x4 x5 x6 x7 (x8 + 1)))) else (if u17 = 5 then Option.bind (f_L_takes g a (((cellF L xs (2 + x8)) : Int32) >>> ((4 : Int32) &&& 31))) (fun u32 => (if u32.1 < 0 then f_L_law_70 L xs n u32.2.1 u32.2.2 x2 x3 x4 x5 x6 x7 (x8 + 1) else f_L_law_70 L xs n u32.2.1 u32.2.2 x2 x3 (x4 + 1) x5 x6 x7 (x8 + 1))) else (if u17 = 6 then (if x4 ≤ 0 then f_L_law_263 L xs (f_L_law_70 L xs n) g a x2 x3 x4 x5 x7 x8 (cellF L xs (2 + x8)) u17 else Option.bind (f_L_low g a (((cellF L xs (2 + x8)) : Int32) >>> ((4 : Int32) &&& 31)) x4) (fun u24 => Option.bind (f_L_low g a (((cellF L xs (2 + x8)) : Int32) >>> ((7 : Int32) &&& 31)) 9) (fun u26 => Option.bind (f_L_low g a (((cellF L xs (2 + x8)) : Int32) >>> ((11 : Int32) &&& 31)) x2) (fun u28 => Option.bind (f_L_tells g a u24 u26 u28) (fun u30 => f_L_law_70 L xs n u30.2.1 u30.2.2 x2 x3 x4 x5 x6 x7 (x8 + 1)))))) else f_L_law_263 L xs (f_L_law_70 L xs n) g a x2 x3 x4 x5 x7 x8 (cellF L xs (2 + x8)) u17))) else Option.bind (f_L_low g a (((cellF L xs (2 + x8)) : Int32) >>> ((4 : Int32) &&& 31)) x3) (fun u40 => Option.bind (f_L_low g a (((cellF L xs (2 + x8)) : Int32) >>> ((7 : Int32) &&& 31)) 9) (fun u42 => Option.bind (f_L_low g a (((cellF L xs (2 + x8)) : Int32) >>> ((11 : Int32) &&& 31)) 4) (fun u44 => (if u44 ≤ 0 then f_L_law_143 L xs (f_L_law_70 L xs n) g a x2 x3 x4 x5 x6 x7 x8 0 u42 u40 else f_L_law_143 L xs (f_L_law_70 L xs n) g a x2 x3 x4 x5 x6 x7 x8 1 u42 u40)))))))))) := rfl
def f_L_law_50 (L : Nat) (xs : Nat → Int32) (g : xG) (a : xA) (x2 : Int32) (x3 : Int32) (x4 : Int32) (x5 : Int32) (s0 : Int32) : Option (Int32) := ck (inB 1 300) (Option.bind (f_L_low g a (cellF L xs 1) 30) (fun u11 => f_L_law_70 L xs fu g a x2 x3 x4 x5 s0 (6 + u11) 0))
def f_L_law (L : Nat) (xs : Nat → Int32) (g : xG) (a : xA) : Option (Int32) := ck (inB 0 300) (Option.bind (f_L_low g a (cellF L xs 0) 2) (fun u2 => Option.bind (rgt (f_X11_values g a (2 + u2))) (fun u4 => (if u4.1 = 2 then Option.bind (rgt (f_X11_relation u4.2.1 u4.2.2 2)) (fun u7 => (if u7.1 = 0 then f_L_law_50 L xs u7.2.1 u7.2.2 (2 + u2) 1 0 1 1 else f_L_law_50 L xs u7.2.1 u7.2.2 (2 + u2) 1 0 1 0)) else f_L_law_50 L xs u4.2.1 u4.2.2 (2 + u2) 1 0 1 0))))
set_option maxRecDepth 100000 in
set_option maxHeartbeats 40000000 in
theorem c_L_law {p : Program} {l : Launch} {e : Env} {s : State} {m : MethodId} {below : List Frame} {meth : Method} {c : Code} {b L : Nat} {xs : Nat → Int32} {E : xE} (C0 : gC p l s m c code 14 #[Value.ref b] E (A0 s)) (hr : meth.sig.returnType = ret) (hlocks : meth.locks = false) (hL : L ≤ 260) (hX : va_X b L xs s s.heap) (hbl : b < s.heap.size) (hD0 : ∀ (g : xG) (a : xA), va_D (A0 s) (wX E g a)) {res : Int32} (hres : res = 1) (g : xG) (a : xA) {H : Heap} {locs : List Loc} {ls : Array Slot} (hP : va_P E.1 vwCl (wX E g a) H) (hS : va_S (A0 s) s.heap H locs) (hl : lv_has ls 14 [(1, .ref (E.2.1 0)), (0, .ref b)]) (hf : f_L_law L xs g a = some res) : W p l e room_1 s m #[Value.ref b] below meth c H locs 200 20000 (lw_Z below #[Value.ref b] s) (F0 m 8 ls []) := by
  obtain ⟨hx, hb, hml, hown, hw, hA, hK, hN, hT, hst, hz, hnc, hstk⟩ := id C0
  have hbA : ¬ (A0 s) b := Nat.not_le.mpr hbl
  have hD := hD0 g a
  unfold f_L_law at hf
  have B143 : ∀ (K70 : xG → xA → Int32 → Int32 → Int32 → Int32 → Int32 → Int32 → Int32 → Option (Int32)) (hK70 : ∀ (g : xG) (a : xA) (x2 : Int32) (x3 : Int32) (x4 : Int32) (x5 : Int32) (x6 : Int32) (x7 : Int32) (x8 : Int32) (H : Heap) (locs : List Loc) (ls : Array Slot), va_P E.1 vwCl (wX E g a) H → va_S (A0 s) s.heap H locs → lv_has ls 14 [(0, .ref b), (1, .ref (E.2.1 0)), (2, .int x2), (3, .int x3), (4, .int x4), (5, .int x5), (6, .int x6), (7, .int x7), (8, .int x8)] → K70 g a x2 x3 x4 x5 x6 x7 x8 = some res → W p l e room_1 s m #[Value.ref b] below meth c H locs (200 + 5 * (x8 : Int32).toNatClampNeg) (20000 + 30 * (x8 : Int32).toNatClampNeg) (lw_Z below #[Value.ref b] s) (F0 m 70 ls [])) (g : xG) (a : xA) (x2 : Int32) (x3 : Int32) (x4 : Int32) (x5 : Int32) (x6 : Int32) (x7 : Int32) (x8 : Int32) (s0 : Int32) (s1 : Int32) (s2 : Int32) (H : Heap) (locs : List Loc) (ls : Array Slot), va_P E.1 vwCl (wX E g a) H → va_S (A0 s) s.heap H locs → lv_has ls 14 [(0, .ref b), (1, .ref (E.2.1 0)), (2, .int x2), (3, .int x3), (4, .int x4), (5, .int x5), (6, .int x6), (7, .int x7), (8, .int x8)] → f_L_law_143 L xs K70 g a x2 x3 x4 x5 x6 x7 x8 s0 s1 s2 = some res → W p l e room_1 s m #[Value.ref b] below meth c H locs (200 + 5 * (x8 : Int32).toNatClampNeg) (20000 + 30 * (x8 : Int32).toNatClampNeg) (lw_Z below #[Value.ref b] s) (F0 m 143 ls [.int s0, .int s1, .int s2, .ref (E.2.1 0)]) := by
    intro K70 hK70 g a x2 x3 x4 x5 x6 x7 x8 s0 s1 s2 H locs ls hP hS hl hf
    unfold f_L_law_143 at hf
    obtain ⟨k47, hf⟩ := ck_some hf
    obtain ⟨hq1, hq2⟩ := nc_f (by decide) k47
    obtain ⟨u48, e49, hf⟩ := bd_some hf
    refine gci (gRunW (rest := []) (As := [.ref (E.2.1 0), .int s2, .int s1, .int s0]) (k := 4) C0 (c_L_puts l hstk E g a s2 s1 s0 e49) bw754 bw858 bw742 bw859 hd_L_puts ⟨Nat.le_of_ble_eq_true rfl, Nat.le_of_ble_eq_true rfl⟩ hP (wX_D hD) hS rfl hl.1 rfl (Nat.le_of_ble_eq_true rfl) dL_law_143 ⟨show (200 + 5 * (x8 : Int32).toNatClampNeg) + 1 ≤ 623463 by omega, show (20000 + 30 * (x8 : Int32).toNatClampNeg) + 6 ≤ 7231235 by omega⟩) hS (fun H locs hP hS => ?_)
    refine W.widen (k := (201 + 5 * (x8 : Int32).toNatClampNeg)) (n := (20006 + 30 * (x8 : Int32).toNatClampNeg)) (by omega) (by omega) ?_
    refine lv_pop hx hb dL_law_146 rfl ?_
    refine lv_goto (tgt := 487) hx hb dL_law_147 (by decide) ?_
    refine lv_iinc (v := (x8 + 1)) (lv' := [(8, .int (x8 + 1)), (0, .ref b), (1, .ref (E.2.1 0)), (2, .int x2), (3, .int x3), (4, .int x4), (5, .int x5), (6, .int x6), (7, .int x7)]) hx hb dL_law_487 hl (k := 8) rfl rfl (by decide) rfl (fun ls hl => ?_)
    refine lv_goto (tgt := 70) hx hb dL_law_490 (by decide) ?_
    refine W.widen (k := (200 + 5 * ((x8 + 1) : Int32).toNatClampNeg)) (n := (20000 + 30 * ((x8 + 1) : Int32).toNatClampNeg)) (by omega) (by omega) ?_
    exact hK70 u48.2.1 u48.2.2 x2 x3 x4 x5 x6 x7 (x8 + 1) _ _ _ hP hS (lv_sub hl [1, 2, 3, 4, 5, 6, 7, 8, 0] rfl) hf
  have B293 : ∀ (K70 : xG → xA → Int32 → Int32 → Int32 → Int32 → Int32 → Int32 → Int32 → Option (Int32)) (hK70 : ∀ (g : xG) (a : xA) (x2 : Int32) (x3 : Int32) (x4 : Int32) (x5 : Int32) (x6 : Int32) (x7 : Int32) (x8 : Int32) (H : Heap) (locs : List Loc) (ls : Array Slot), va_P E.1 vwCl (wX E g a) H → va_S (A0 s) s.heap H locs → lv_has ls 14 [(0, .ref b), (1, .ref (E.2.1 0)), (2, .int x2), (3, .int x3), (4, .int x4), (5, .int x5), (6, .int x6), (7, .int x7), (8, .int x8)] → K70 g a x2 x3 x4 x5 x6 x7 x8 = some res → W p l e room_1 s m #[Value.ref b] below meth c H locs (200 + 5 * (x8 : Int32).toNatClampNeg) (20000 + 30 * (x8 : Int32).toNatClampNeg) (lw_Z below #[Value.ref b] s) (F0 m 70 ls [])) (g : xG) (a : xA) (x2 : Int32) (x3 : Int32) (x4 : Int32) (x5 : Int32) (x7 : Int32) (x8 : Int32) (x11 : Int32) (s0 : Int32) (H : Heap) (locs : List Loc) (ls : Array Slot), va_P E.1 vwCl (wX E g a) H → va_S (A0 s) s.heap H locs → lv_has ls 14 [(0, .ref b), (1, .ref (E.2.1 0)), (2, .int x2), (3, .int x3), (4, .int x4), (5, .int x5), (7, .int x7), (8, .int x8), (11, .int x11)] → f_L_law_293 L xs K70 g a x2 x3 x4 x5 x7 x8 x11 s0 = some res → W p l e room_1 s m #[Value.ref b] below meth c H locs (205 + 5 * (x8 : Int32).toNatClampNeg) (20030 + 30 * (x8 : Int32).toNatClampNeg) (lw_Z below #[Value.ref b] s) (F0 m 293 ls [.int s0]) := by
    intro K70 hK70 g a x2 x3 x4 x5 x7 x8 x11 s0 H locs ls hP hS hl hf
    unfold f_L_law_293 at hf
    obtain ⟨k79, hf⟩ := ck_some hf
    obtain ⟨hq1, hq2⟩ := nc_f (by decide) k79
    refine lv_istore (lv' := [(6, .int s0), (0, .ref b), (1, .ref (E.2.1 0)), (2, .int x2), (3, .int x3), (4, .int x4), (5, .int x5), (7, .int x7), (8, .int x8), (11, .int x11)]) hx hb dL_law_293 hl (by decide) rfl (fun ls hl => ?_)
    refine lv_iload hx hb dL_law_295 (lv_at hl 0 rfl) ?_
    refine lv_if_eq (tgt := 305) hx hb dL_law_297 (by decide) (fun c80 => ?_) (fun c80 => ?_)
    · replace hf := (if_pos c80).symm.trans hf
      refine lv_iload_n hx hb dL_law_305 rfl (lv_at hl 4 rfl) ?_
      refine lv_istore_n (lv' := [(3, .int x3), (6, .int s0), (0, .ref b), (1, .ref (E.2.1 0)), (2, .int x2), (4, .int x4), (5, .int x5), (7, .int x7), (8, .int x8), (11, .int x11)]) hx hb dL_law_306 rfl hl (by decide) rfl (fun ls hl => ?_)
      refine lv_goto (tgt := 487) hx hb dL_law_307 (by decide) ?_
      refine lv_iinc (v := (x8 + 1)) (lv' := [(8, .int (x8 + 1)), (3, .int x3), (6, .int s0), (0, .ref b), (1, .ref (E.2.1 0)), (2, .int x2), (4, .int x4), (5, .int x5), (7, .int x7), (11, .int x11)]) hx hb dL_law_487 hl (k := 8) rfl rfl (by decide) rfl (fun ls hl => ?_)
      refine lv_goto (tgt := 70) hx hb dL_law_490 (by decide) ?_
      refine W.widen (k := (200 + 5 * ((x8 + 1) : Int32).toNatClampNeg)) (n := (20000 + 30 * ((x8 + 1) : Int32).toNatClampNeg)) (by omega) (by omega) ?_
      exact hK70 g a x2 x3 x4 x5 s0 x7 (x8 + 1) _ _ _ hP hS (lv_sub hl [3, 4, 5, 1, 6, 7, 2, 8, 0] rfl) hf
    · replace hf := (if_neg c80).symm.trans hf
      refine lv_iload hx hb dL_law_300 (lv_at hl 9 rfl) ?_
      refine lv_goto (tgt := 306) hx hb dL_law_302 (by decide) ?_
      refine lv_istore_n (lv' := [(3, .int x11), (6, .int s0), (0, .ref b), (1, .ref (E.2.1 0)), (2, .int x2), (4, .int x4), (5, .int x5), (7, .int x7), (8, .int x8), (11, .int x11)]) hx hb dL_law_306 rfl hl (by decide) rfl (fun ls hl => ?_)
      refine lv_goto (tgt := 487) hx hb dL_law_307 (by decide) ?_
      refine lv_iinc (v := (x8 + 1)) (lv' := [(8, .int (x8 + 1)), (3, .int x11), (6, .int s0), (0, .ref b), (1, .ref (E.2.1 0)), (2, .int x2), (4, .int x4), (5, .int x5), (7, .int x7), (11, .int x11)]) hx hb dL_law_487 hl (k := 8) rfl rfl (by decide) rfl (fun ls hl => ?_)
      refine lv_goto (tgt := 70) hx hb dL_law_490 (by decide) ?_
      refine W.widen (k := (200 + 5 * ((x8 + 1) : Int32).toNatClampNeg)) (n := (20000 + 30 * ((x8 + 1) : Int32).toNatClampNeg)) (by omega) (by omega) ?_
      exact hK70 g a x2 x11 x4 x5 s0 x7 (x8 + 1) _ _ _ hP hS (lv_sub hl [3, 4, 5, 1, 6, 7, 2, 8, 0] rfl) hf
  have B434 : ∀ (K70 : xG → xA → Int32 → Int32 → Int32 → Int32 → Int32 → Int32 → Int32 → Option (Int32)) (hK70 : ∀ (g : xG) (a : xA) (x2 : Int32) (x3 : Int32) (x4 : Int32) (x5 : Int32) (x6 : Int32) (x7 : Int32) (x8 : Int32) (H : Heap) (locs : List Loc) (ls : Array Slot), va_P E.1 vwCl (wX E g a) H → va_S (A0 s) s.heap H locs → lv_has ls 14 [(0, .ref b), (1, .ref (E.2.1 0)), (2, .int x2), (3, .int x3), (4, .int x4), (5, .int x5), (6, .int x6), (7, .int x7), (8, .int x8)] → K70 g a x2 x3 x4 x5 x6 x7 x8 = some res → W p l e room_1 s m #[Value.ref b] below meth c H locs (200 + 5 * (x8 : Int32).toNatClampNeg) (20000 + 30 * (x8 : Int32).toNatClampNeg) (lw_Z below #[Value.ref b] s) (F0 m 70 ls [])) (g : xG) (a : xA) (x2 : Int32) (x3 : Int32) (x4 : Int32) (x5 : Int32) (x7 : Int32) (x8 : Int32) (s0 : Int32) (s1 : Int32) (s2 : Int32) (s3 : Int32) (H : Heap) (locs : List Loc) (ls : Array Slot), va_P E.1 vwCl (wX E g a) H → va_S (A0 s) s.heap H locs → lv_has ls 14 [(0, .ref b), (1, .ref (E.2.1 0)), (2, .int x2), (3, .int x3), (4, .int x4), (5, .int x5), (7, .int x7), (8, .int x8)] → f_L_law_434 L xs K70 g a x2 x3 x4 x5 x7 x8 s0 s1 s2 s3 = some res → W p l e room_1 s m #[Value.ref b] below meth c H locs (200 + 5 * (x8 : Int32).toNatClampNeg) (20000 + 30 * (x8 : Int32).toNatClampNeg) (lw_Z below #[Value.ref b] s) (F0 m 434 ls [.int s0, .int s1, .int s2, .int s3, .ref (E.2.1 0)]) := by
    intro K70 hK70 g a x2 x3 x4 x5 x7 x8 s0 s1 s2 s3 H locs ls hP hS hl hf
    unfold f_L_law_434 at hf
    obtain ⟨k85, hf⟩ := ck_some hf
    obtain ⟨hq1, hq2⟩ := nc_f (by decide) k85
    obtain ⟨u86, e87, hf⟩ := bd_some hf
    refine gci (gRunW (rest := []) (As := [.ref (E.2.1 0), .int s3, .int s2, .int s1, .int s0]) (k := 5) C0 (c_L_constrains l hstk E g a s3 s2 s1 s0 e87) bw762 bw871 bw742 bw872 hd_L_constrains ⟨Nat.le_of_ble_eq_true rfl, Nat.le_of_ble_eq_true rfl⟩ hP (wX_D hD) hS rfl hl.1 rfl (Nat.le_of_ble_eq_true rfl) dL_law_434 ⟨show (200 + 5 * (x8 : Int32).toNatClampNeg) + 1 ≤ 623463 by omega, show (20000 + 30 * (x8 : Int32).toNatClampNeg) + 6 ≤ 7231235 by omega⟩) hS (fun H locs hP hS => ?_)
    refine W.widen (k := (201 + 5 * (x8 : Int32).toNatClampNeg)) (n := (20006 + 30 * (x8 : Int32).toNatClampNeg)) (by omega) (by omega) ?_
    refine lv_istore (lv' := [(13, .int u86.1), (0, .ref b), (1, .ref (E.2.1 0)), (2, .int x2), (3, .int x3), (4, .int x4), (5, .int x5), (7, .int x7), (8, .int x8)]) hx hb dL_law_437 hl (by decide) rfl (fun ls hl => ?_)
    refine lv_iload hx hb dL_law_439 (lv_at hl 0 rfl) ?_
    refine lv_bipush (v := (-9)) hx hb dL_law_441 (by decide) ?_
    refine lv_icmp_eq (tgt := 451) hx hb dL_law_443 (by decide) (fun c88 => ?_) (fun c88 => ?_)
    · replace hf := (if_pos c88).symm.trans hf
      refine lv_iconst (v := 1) hx hb dL_law_451 (by decide) ?_
      refine lv_goto (tgt := 456) hx hb dL_law_452 (by decide) ?_
      refine lv_istore (lv' := [(6, .int 1), (13, .int u86.1), (0, .ref b), (1, .ref (E.2.1 0)), (2, .int x2), (3, .int x3), (4, .int x4), (5, .int x5), (7, .int x7), (8, .int x8)]) hx hb dL_law_456 hl (by decide) rfl (fun ls hl => ?_)
      refine lv_goto (tgt := 487) hx hb dL_law_458 (by decide) ?_
      refine lv_iinc (v := (x8 + 1)) (lv' := [(8, .int (x8 + 1)), (6, .int 1), (13, .int u86.1), (0, .ref b), (1, .ref (E.2.1 0)), (2, .int x2), (3, .int x3), (4, .int x4), (5, .int x5), (7, .int x7)]) hx hb dL_law_487 hl (k := 9) rfl rfl (by decide) rfl (fun ls hl => ?_)
      refine lv_goto (tgt := 70) hx hb dL_law_490 (by decide) ?_
      refine W.widen (k := (200 + 5 * ((x8 + 1) : Int32).toNatClampNeg)) (n := (20000 + 30 * ((x8 + 1) : Int32).toNatClampNeg)) (by omega) (by omega) ?_
      exact hK70 u86.2.1 u86.2.2 x2 x3 x4 x5 1 x7 (x8 + 1) _ _ _ hP hS (lv_sub hl [3, 4, 5, 6, 7, 8, 1, 9, 0] rfl) hf
    · replace hf := (if_neg c88).symm.trans hf
      refine lv_iload hx hb dL_law_446 (lv_at hl 0 rfl) ?_
      refine lv_if_le (tgt := 455) hx hb dL_law_448 (by decide) (fun c89 => ?_) (fun c89 => ?_)
      · replace hf := (if_pos c89).symm.trans hf
        refine lv_iconst (v := 0) hx hb dL_law_455 (by decide) ?_
        refine lv_istore (lv' := [(6, .int 0), (13, .int u86.1), (0, .ref b), (1, .ref (E.2.1 0)), (2, .int x2), (3, .int x3), (4, .int x4), (5, .int x5), (7, .int x7), (8, .int x8)]) hx hb dL_law_456 hl (by decide) rfl (fun ls hl => ?_)
        refine lv_goto (tgt := 487) hx hb dL_law_458 (by decide) ?_
        refine lv_iinc (v := (x8 + 1)) (lv' := [(8, .int (x8 + 1)), (6, .int 0), (13, .int u86.1), (0, .ref b), (1, .ref (E.2.1 0)), (2, .int x2), (3, .int x3), (4, .int x4), (5, .int x5), (7, .int x7)]) hx hb dL_law_487 hl (k := 9) rfl rfl (by decide) rfl (fun ls hl => ?_)
        refine lv_goto (tgt := 70) hx hb dL_law_490 (by decide) ?_
        refine W.widen (k := (200 + 5 * ((x8 + 1) : Int32).toNatClampNeg)) (n := (20000 + 30 * ((x8 + 1) : Int32).toNatClampNeg)) (by omega) (by omega) ?_
        exact hK70 u86.2.1 u86.2.2 x2 x3 x4 x5 0 x7 (x8 + 1) _ _ _ hP hS (lv_sub hl [3, 4, 5, 6, 7, 8, 1, 9, 0] rfl) hf
      · replace hf := (if_neg c89).symm.trans hf
        refine lv_iconst (v := 1) hx hb dL_law_451 (by decide) ?_
        refine lv_goto (tgt := 456) hx hb dL_law_452 (by decide) ?_
        refine lv_istore (lv' := [(6, .int 1), (13, .int u86.1), (0, .ref b), (1, .ref (E.2.1 0)), (2, .int x2), (3, .int x3), (4, .int x4), (5, .int x5), (7, .int x7), (8, .int x8)]) hx hb dL_law_456 hl (by decide) rfl (fun ls hl => ?_)
        refine lv_goto (tgt := 487) hx hb dL_law_458 (by decide) ?_
        refine lv_iinc (v := (x8 + 1)) (lv' := [(8, .int (x8 + 1)), (6, .int 1), (13, .int u86.1), (0, .ref b), (1, .ref (E.2.1 0)), (2, .int x2), (3, .int x3), (4, .int x4), (5, .int x5), (7, .int x7)]) hx hb dL_law_487 hl (k := 9) rfl rfl (by decide) rfl (fun ls hl => ?_)
        refine lv_goto (tgt := 70) hx hb dL_law_490 (by decide) ?_
        refine W.widen (k := (200 + 5 * ((x8 + 1) : Int32).toNatClampNeg)) (n := (20000 + 30 * ((x8 + 1) : Int32).toNatClampNeg)) (by omega) (by omega) ?_
        exact hK70 u86.2.1 u86.2.2 x2 x3 x4 x5 1 x7 (x8 + 1) _ _ _ hP hS (lv_sub hl [3, 4, 5, 6, 7, 8, 1, 9, 0] rfl) hf
  have B414 : ∀ (K70 : xG → xA → Int32 → Int32 → Int32 → Int32 → Int32 → Int32 → Int32 → Option (Int32)) (hK70 : ∀ (g : xG) (a : xA) (x2 : Int32) (x3 : Int32) (x4 : Int32) (x5 : Int32) (x6 : Int32) (x7 : Int32) (x8 : Int32) (H : Heap) (locs : List Loc) (ls : Array Slot), va_P E.1 vwCl (wX E g a) H → va_S (A0 s) s.heap H locs → lv_has ls 14 [(0, .ref b), (1, .ref (E.2.1 0)), (2, .int x2), (3, .int x3), (4, .int x4), (5, .int x5), (6, .int x6), (7, .int x7), (8, .int x8)] → K70 g a x2 x3 x4 x5 x6 x7 x8 = some res → W p l e room_1 s m #[Value.ref b] below meth c H locs (200 + 5 * (x8 : Int32).toNatClampNeg) (20000 + 30 * (x8 : Int32).toNatClampNeg) (lw_Z below #[Value.ref b] s) (F0 m 70 ls [])) (g : xG) (a : xA) (x2 : Int32) (x3 : Int32) (x4 : Int32) (x5 : Int32) (x7 : Int32) (x8 : Int32) (x9 : Int32) (x12 : Int32) (s0 : Int32) (s1 : Int32) (s2 : Int32) (H : Heap) (locs : List Loc) (ls : Array Slot), va_P E.1 vwCl (wX E g a) H → va_S (A0 s) s.heap H locs → lv_has ls 14 [(0, .ref b), (1, .ref (E.2.1 0)), (2, .int x2), (3, .int x3), (4, .int x4), (5, .int x5), (7, .int x7), (8, .int x8), (9, .int x9), (12, .int x12)] → f_L_law_414 L xs K70 g a x2 x3 x4 x5 x7 x8 x9 x12 s0 s1 s2 = some res → W p l e room_1 s m #[Value.ref b] below meth c H locs (200 + 5 * (x8 : Int32).toNatClampNeg) (20000 + 30 * (x8 : Int32).toNatClampNeg) (lw_Z below #[Value.ref b] s) (F0 m 414 ls [.int s0, .int s1, .int s2, .ref (E.2.1 0)]) := by
    intro K70 hK70 g a x2 x3 x4 x5 x7 x8 x9 x12 s0 s1 s2 H locs ls hP hS hl hf
    unfold f_L_law_414 at hf
    obtain ⟨k81, hf⟩ := ck_some hf
    obtain ⟨hq1, hq2⟩ := nc_f (by decide) k81
    refine lv_iload hx hb dL_law_414 (lv_at hl 9 rfl) ?_
    refine lv_iconst (v := 2) hx hb dL_law_416 (by decide) ?_
    refine lv_icmp_le (tgt := 433) hx hb dL_law_417 (by decide) (fun c82 => ?_) (fun c82 => ?_)
    · replace hf := (if_pos c82).symm.trans hf
      refine lv_iconst (v := (-1)) hx hb dL_law_433 (by decide) ?_
      exact B434 K70 hK70 g a x2 x3 x4 x5 x7 x8 (-1) s0 s1 s2 _ _ _ hP hS (lv_sub hl [0, 1, 2, 3, 4, 5, 6, 7] rfl) hf
    · replace hf := (if_neg c82).symm.trans hf
      refine lv_iload hx hb dL_law_420 (lv_at hl 8 rfl) ?_
      refine lv_bipush (v := 11) hx hb dL_law_422 (by decide) ?_
      refine lv_ishr hx hb dL_law_424 ?_
      refine lv_iload hx hb dL_law_425 (lv_at hl 5 rfl) ?_
      obtain ⟨u83, e84, hf⟩ := bd_some hf
      refine xci (gRunS (rest := [.int s0, .int s1, .int s2, .ref (E.2.1 0)]) (As := [.int ((x9 : Int32) >>> ((11 : Int32) &&& 31)), .int x5]) (k := 2) C0 (c_L_low l E g a ((x9 : Int32) >>> ((11 : Int32) &&& 31)) x5 e84) bw730 bw740 bw742 bw741 hd_L_low ⟨Nat.le_of_ble_eq_true rfl, Nat.le_of_ble_eq_true rfl⟩ hP (wX_D hD) hS rfl hl.1 rfl (Nat.le_of_ble_eq_true rfl) dL_law_427 ⟨show (200 + 5 * (x8 : Int32).toNatClampNeg) ≤ 623463 by omega, show (20000 + 30 * (x8 : Int32).toNatClampNeg) ≤ 7231235 by omega⟩) hS (fun H locs hP hS => ?_)
      refine lv_goto (tgt := 434) hx hb dL_law_430 (by decide) ?_
      exact B434 K70 hK70 g a x2 x3 x4 x5 x7 x8 u83 s0 s1 s2 _ _ _ hP hS (lv_sub hl [0, 1, 2, 3, 4, 5, 6, 7] rfl) hf
  have B263 : ∀ (K70 : xG → xA → Int32 → Int32 → Int32 → Int32 → Int32 → Int32 → Int32 → Option (Int32)) (hK70 : ∀ (g : xG) (a : xA) (x2 : Int32) (x3 : Int32) (x4 : Int32) (x5 : Int32) (x6 : Int32) (x7 : Int32) (x8 : Int32) (H : Heap) (locs : List Loc) (ls : Array Slot), va_P E.1 vwCl (wX E g a) H → va_S (A0 s) s.heap H locs → lv_has ls 14 [(0, .ref b), (1, .ref (E.2.1 0)), (2, .int x2), (3, .int x3), (4, .int x4), (5, .int x5), (6, .int x6), (7, .int x7), (8, .int x8)] → K70 g a x2 x3 x4 x5 x6 x7 x8 = some res → W p l e room_1 s m #[Value.ref b] below meth c H locs (200 + 5 * (x8 : Int32).toNatClampNeg) (20000 + 30 * (x8 : Int32).toNatClampNeg) (lw_Z below #[Value.ref b] s) (F0 m 70 ls [])) (g : xG) (a : xA) (x2 : Int32) (x3 : Int32) (x4 : Int32) (x5 : Int32) (x7 : Int32) (x8 : Int32) (x9 : Int32) (x10 : Int32) (H : Heap) (locs : List Loc) (ls : Array Slot), va_P E.1 vwCl (wX E g a) H → va_S (A0 s) s.heap H locs → lv_has ls 14 [(0, .ref b), (1, .ref (E.2.1 0)), (2, .int x2), (3, .int x3), (4, .int x4), (5, .int x5), (7, .int x7), (8, .int x8), (9, .int x9), (10, .int x10)] → f_L_law_263 L xs K70 g a x2 x3 x4 x5 x7 x8 x9 x10 = some res → W p l e room_1 s m #[Value.ref b] below meth c H locs (200 + 5 * (x8 : Int32).toNatClampNeg) (20000 + 30 * (x8 : Int32).toNatClampNeg) (lw_Z below #[Value.ref b] s) (F0 m 263 ls []) := by
    intro K70 hK70 g a x2 x3 x4 x5 x7 x8 x9 x10 H locs ls hP hS hl hf
    unfold f_L_law_263 at hf
    obtain ⟨k50, hf⟩ := ck_some hf
    obtain ⟨hq1, hq2⟩ := nc_f (by decide) k50
    refine lv_iload hx hb dL_law_263 (lv_at hl 9 rfl) ?_
    refine lv_bipush (v := 7) hx hb dL_law_265 (by decide) ?_
    refine lv_icmp_ne (tgt := 310) hx hb dL_law_267 (by decide) (fun c51 => ?_) (fun c51 => ?_)
    · replace hf := (if_neg c51).symm.trans hf
      refine lv_iload hx hb dL_law_310 (lv_at hl 9 rfl) ?_
      refine lv_bipush (v := 8) hx hb dL_law_312 (by decide) ?_
      refine lv_icmp_ne (tgt := 355) hx hb dL_law_314 (by decide) (fun c52 => ?_) (fun c52 => ?_)
      · replace hf := (if_neg c52).symm.trans hf
        refine lv_iload hx hb dL_law_355 (lv_at hl 9 rfl) ?_
        refine lv_bipush (v := 11) hx hb dL_law_357 (by decide) ?_
        refine lv_icmp_ge (tgt := 461) hx hb dL_law_359 (by decide) (fun c53 => ?_) (fun c53 => ?_)
        · replace hf := (if_pos c53).symm.trans hf
          refine lv_iload hx hb dL_law_461 (lv_at hl 9 rfl) ?_
          refine lv_bipush (v := 11) hx hb dL_law_463 (by decide) ?_
          refine lv_icmp_ne (tgt := 478) hx hb dL_law_465 (by decide) (fun c54 => ?_) (fun c54 => ?_)
          · replace hf := (if_neg c54).symm.trans hf
            refine lv_aload_n hx hb dL_law_478 rfl (lv_at hl 1 rfl) ?_
            refine lv_iload_n hx hb dL_law_479 rfl (lv_at hl 2 rfl) ?_
            refine lv_iload hx hb dL_law_480 (lv_at hl 5 rfl) ?_
            obtain ⟨u55, e56, hf⟩ := bd_some hf
            refine xci (gRunS (rest := []) (As := [.ref (E.2.1 0), .int x2, .int x5]) (k := 3) C0 (c_L_instances l E g a x2 x5 e56) bw834 bw875 bw742 bw876 hd_L_instances ⟨Nat.le_of_ble_eq_true rfl, Nat.le_of_ble_eq_true rfl⟩ hP (wX_D hD) hS rfl hl.1 rfl (Nat.le_of_ble_eq_true rfl) dL_law_482 ⟨show (200 + 5 * (x8 : Int32).toNatClampNeg) ≤ 623463 by omega, show (20000 + 30 * (x8 : Int32).toNatClampNeg) ≤ 7231235 by omega⟩) hS (fun H locs hP hS => ?_)
            refine lv_istore (lv' := [(6, .int u55.1), (0, .ref b), (1, .ref (E.2.1 0)), (2, .int x2), (3, .int x3), (4, .int x4), (5, .int x5), (7, .int x7), (8, .int x8), (9, .int x9), (10, .int x10)]) hx hb dL_law_485 hl (by decide) rfl (fun ls hl => ?_)
            refine lv_iinc (v := (x8 + 1)) (lv' := [(8, .int (x8 + 1)), (6, .int u55.1), (0, .ref b), (1, .ref (E.2.1 0)), (2, .int x2), (3, .int x3), (4, .int x4), (5, .int x5), (7, .int x7), (9, .int x9), (10, .int x10)]) hx hb dL_law_487 hl (k := 8) rfl rfl (by decide) rfl (fun ls hl => ?_)
            refine lv_goto (tgt := 70) hx hb dL_law_490 (by decide) ?_
            refine W.widen (k := (200 + 5 * ((x8 + 1) : Int32).toNatClampNeg)) (n := (20000 + 30 * ((x8 + 1) : Int32).toNatClampNeg)) (by omega) (by omega) ?_
            exact hK70 g u55.2 x2 x3 x4 x5 u55.1 x7 (x8 + 1) _ _ _ hP hS (lv_sub hl [2, 3, 4, 5, 6, 7, 1, 8, 0] rfl) hf
          · replace hf := (if_pos c54).symm.trans hf
            refine lv_aload_n hx hb dL_law_468 rfl (lv_at hl 1 rfl) ?_
            refine lv_iload_n hx hb dL_law_469 rfl (lv_at hl 3 rfl) ?_
            refine lv_iload hx hb dL_law_470 (lv_at hl 4 rfl) ?_
            obtain ⟨u57, e58, hf⟩ := bd_some hf
            refine xci (gRunS (rest := []) (As := [.ref (E.2.1 0), .int x3, .int x4]) (k := 3) C0 (c_L_relations l E g a x3 x4 e58) bw794 bw873 bw742 bw874 hd_L_relations ⟨Nat.le_of_ble_eq_true rfl, Nat.le_of_ble_eq_true rfl⟩ hP (wX_D hD) hS rfl hl.1 rfl (Nat.le_of_ble_eq_true rfl) dL_law_472 ⟨show (200 + 5 * (x8 : Int32).toNatClampNeg) ≤ 623463 by omega, show (20000 + 30 * (x8 : Int32).toNatClampNeg) ≤ 7231235 by omega⟩) hS (fun H locs hP hS => ?_)
            refine lv_goto (tgt := 485) hx hb dL_law_475 (by decide) ?_
            refine lv_istore (lv' := [(6, .int u57.1), (0, .ref b), (1, .ref (E.2.1 0)), (2, .int x2), (3, .int x3), (4, .int x4), (5, .int x5), (7, .int x7), (8, .int x8), (9, .int x9), (10, .int x10)]) hx hb dL_law_485 hl (by decide) rfl (fun ls hl => ?_)
            refine lv_iinc (v := (x8 + 1)) (lv' := [(8, .int (x8 + 1)), (6, .int u57.1), (0, .ref b), (1, .ref (E.2.1 0)), (2, .int x2), (3, .int x3), (4, .int x4), (5, .int x5), (7, .int x7), (9, .int x9), (10, .int x10)]) hx hb dL_law_487 hl (k := 8) rfl rfl (by decide) rfl (fun ls hl => ?_)
            refine lv_goto (tgt := 70) hx hb dL_law_490 (by decide) ?_
            refine W.widen (k := (200 + 5 * ((x8 + 1) : Int32).toNatClampNeg)) (n := (20000 + 30 * ((x8 + 1) : Int32).toNatClampNeg)) (by omega) (by omega) ?_
            exact hK70 u57.2.1 u57.2.2 x2 x3 x4 x5 u57.1 x7 (x8 + 1) _ _ _ hP hS (lv_sub hl [2, 3, 4, 5, 6, 7, 1, 8, 0] rfl) hf
        · replace hf := (if_neg c53).symm.trans hf
          refine lv_iload hx hb dL_law_362 (lv_at hl 8 rfl) ?_
          refine lv_iconst (v := 4) hx hb dL_law_364 (by decide) ?_
          refine lv_ishr hx hb dL_law_365 ?_
          refine lv_iload_n hx hb dL_law_366 rfl (lv_at hl 3 rfl) ?_
          obtain ⟨u59, e60, hf⟩ := bd_some hf
          refine xci (gRunS (rest := []) (As := [.int ((x9 : Int32) >>> ((4 : Int32) &&& 31)), .int x3]) (k := 2) C0 (c_L_low l E g a ((x9 : Int32) >>> ((4 : Int32) &&& 31)) x3 e60) bw730 bw740 bw742 bw741 hd_L_low ⟨Nat.le_of_ble_eq_true rfl, Nat.le_of_ble_eq_true rfl⟩ hP (wX_D hD) hS rfl hl.1 rfl (Nat.le_of_ble_eq_true rfl) dL_law_367 ⟨show (200 + 5 * (x8 : Int32).toNatClampNeg) ≤ 623463 by omega, show (20000 + 30 * (x8 : Int32).toNatClampNeg) ≤ 7231235 by omega⟩) hS (fun H locs hP hS => ?_)
          refine lv_istore (lv' := [(11, .int u59), (0, .ref b), (1, .ref (E.2.1 0)), (2, .int x2), (3, .int x3), (4, .int x4), (5, .int x5), (7, .int x7), (8, .int x8), (9, .int x9), (10, .int x10)]) hx hb dL_law_370 hl (by decide) rfl (fun ls hl => ?_)
          refine lv_aload_n hx hb dL_law_372 rfl (lv_at hl 2 rfl) ?_
          refine lv_iload hx hb dL_law_373 (lv_at hl 0 rfl) ?_
          refine lv_iconst (v := 0) hx hb dL_law_375 (by decide) ?_
          obtain ⟨u61, e62, hf⟩ := bd_some hf
          refine xci (gRunV (rest := []) (As := [.int u59, .int 0]) (C := RX11) (k := 2) C0 (cr_X11_ofRelation l E g a u59 0 (rgt_some e62)) bw619 bw780 bw13 bw781 bw782 hd_X11_ofRelation ⟨Nat.le_of_ble_eq_true rfl, Nat.le_of_ble_eq_true rfl⟩ hP (wX_D hD) hS (va_recv hK hP (ci := 11) rfl (gx_0 E g a)) rfl hl.1 rfl (Nat.le_of_ble_eq_true rfl) dL_law_376 ⟨show (200 + 5 * (x8 : Int32).toNatClampNeg) ≤ 623463 by omega, show (20000 + 30 * (x8 : Int32).toNatClampNeg) ≤ 7231235 by omega⟩) hS (fun H locs hP hS => ?_)
          refine lv_istore (lv' := [(12, .int u61), (11, .int u59), (0, .ref b), (1, .ref (E.2.1 0)), (2, .int x2), (3, .int x3), (4, .int x4), (5, .int x5), (7, .int x7), (8, .int x8), (9, .int x9), (10, .int x10)]) hx hb dL_law_379 hl (by decide) rfl (fun ls hl => ?_)
          refine lv_aload_n hx hb dL_law_381 rfl (lv_at hl 3 rfl) ?_
          refine lv_iload hx hb dL_law_382 (lv_at hl 1 rfl) ?_
          refine lv_iload hx hb dL_law_384 (lv_at hl 10 rfl) ?_
          refine lv_bipush (v := 7) hx hb dL_law_386 (by decide) ?_
          refine lv_ishr hx hb dL_law_388 ?_
          refine lv_iload hx hb dL_law_389 (lv_at hl 7 rfl) ?_
          obtain ⟨u63, e64, hf⟩ := bd_some hf
          refine xci (gRunS (rest := [.int u59, .ref (E.2.1 0)]) (As := [.int ((x9 : Int32) >>> ((7 : Int32) &&& 31)), .int x5]) (k := 2) C0 (c_L_low l E g a ((x9 : Int32) >>> ((7 : Int32) &&& 31)) x5 e64) bw730 bw740 bw742 bw741 hd_L_low ⟨Nat.le_of_ble_eq_true rfl, Nat.le_of_ble_eq_true rfl⟩ hP (wX_D hD) hS rfl hl.1 rfl (Nat.le_of_ble_eq_true rfl) dL_law_391 ⟨show (200 + 5 * (x8 : Int32).toNatClampNeg) ≤ 623463 by omega, show (20000 + 30 * (x8 : Int32).toNatClampNeg) ≤ 7231235 by omega⟩) hS (fun H locs hP hS => ?_)
          refine lv_iload hx hb dL_law_394 (lv_at hl 0 rfl) ?_
          refine lv_iconst (v := 1) hx hb dL_law_396 (by decide) ?_
          refine lv_icmp_le (tgt := 413) hx hb dL_law_397 (by decide) (fun c65 => ?_) (fun c65 => ?_)
          · replace hf := (if_pos c65).symm.trans hf
            refine lv_iconst (v := (-1)) hx hb dL_law_413 (by decide) ?_
            exact B414 K70 hK70 g a x2 x3 x4 x5 x7 x8 x9 u61 (-1) u63 u59 _ _ _ hP hS (lv_sub hl [2, 3, 4, 5, 6, 7, 8, 9, 10, 0] rfl) hf
          · replace hf := (if_neg c65).symm.trans hf
            refine lv_iload hx hb dL_law_400 (lv_at hl 10 rfl) ?_
            refine lv_bipush (v := 9) hx hb dL_law_402 (by decide) ?_
            refine lv_ishr hx hb dL_law_404 ?_
            refine lv_iload hx hb dL_law_405 (lv_at hl 7 rfl) ?_
            obtain ⟨u66, e67, hf⟩ := bd_some hf
            refine xci (gRunS (rest := [.int u63, .int u59, .ref (E.2.1 0)]) (As := [.int ((x9 : Int32) >>> ((9 : Int32) &&& 31)), .int x5]) (k := 2) C0 (c_L_low l E g a ((x9 : Int32) >>> ((9 : Int32) &&& 31)) x5 e67) bw730 bw740 bw742 bw741 hd_L_low ⟨Nat.le_of_ble_eq_true rfl, Nat.le_of_ble_eq_true rfl⟩ hP (wX_D hD) hS rfl hl.1 rfl (Nat.le_of_ble_eq_true rfl) dL_law_407 ⟨show (200 + 5 * (x8 : Int32).toNatClampNeg) ≤ 623463 by omega, show (20000 + 30 * (x8 : Int32).toNatClampNeg) ≤ 7231235 by omega⟩) hS (fun H locs hP hS => ?_)
            refine lv_goto (tgt := 414) hx hb dL_law_410 (by decide) ?_
            exact B414 K70 hK70 g a x2 x3 x4 x5 x7 x8 x9 u61 u66 u63 u59 _ _ _ hP hS (lv_sub hl [2, 3, 4, 5, 6, 7, 8, 9, 10, 0] rfl) hf
      · replace hf := (if_pos c52).symm.trans hf
        refine lv_iconst (v := 2) hx hb dL_law_317 (by decide) ?_
        refine lv_iload hx hb dL_law_318 (lv_at hl 8 rfl) ?_
        refine lv_iconst (v := 4) hx hb dL_law_320 (by decide) ?_
        refine lv_ishr hx hb dL_law_321 ?_
        refine lv_iconst (v := 3) hx hb dL_law_322 (by decide) ?_
        obtain ⟨u68, e69, hf⟩ := bd_some hf
        refine xci (gRunS (rest := [.int 2]) (As := [.int ((x9 : Int32) >>> ((4 : Int32) &&& 31)), .int 3]) (k := 2) C0 (c_L_low l E g a ((x9 : Int32) >>> ((4 : Int32) &&& 31)) 3 e69) bw730 bw740 bw742 bw741 hd_L_low ⟨Nat.le_of_ble_eq_true rfl, Nat.le_of_ble_eq_true rfl⟩ hP (wX_D hD) hS rfl hl.1 rfl (Nat.le_of_ble_eq_true rfl) dL_law_323 ⟨show (200 + 5 * (x8 : Int32).toNatClampNeg) ≤ 623463 by omega, show (20000 + 30 * (x8 : Int32).toNatClampNeg) ≤ 7231235 by omega⟩) hS (fun H locs hP hS => ?_)
        refine lv_iadd hx hb dL_law_326 ?_
        refine lv_istore (lv' := [(5, .int (2 + u68)), (0, .ref b), (1, .ref (E.2.1 0)), (2, .int x2), (3, .int x3), (4, .int x4), (7, .int x7), (8, .int x8), (9, .int x9), (10, .int x10)]) hx hb dL_law_327 hl (by decide) rfl (fun ls hl => ?_)
        refine lv_aload_n hx hb dL_law_329 rfl (lv_at hl 2 rfl) ?_
        refine lv_iload hx hb dL_law_330 (lv_at hl 0 rfl) ?_
        obtain ⟨u70, e71, hf⟩ := bd_some hf
        refine xci (gRunV (rest := []) (As := [.int (2 + u68)]) (C := RX11) (k := 1) C0 (cr_X11_instance l E g a (2 + u68) (rgt_some e71)) bw697 bw868 bw13 bw869 bw870 hd_X11_instance ⟨Nat.le_of_ble_eq_true rfl, Nat.le_of_ble_eq_true rfl⟩ hP (wX_D hD) hS (va_recv hK hP (ci := 11) rfl (gx_0 E g a)) rfl hl.1 rfl (Nat.le_of_ble_eq_true rfl) dL_law_332 ⟨show (200 + 5 * (x8 : Int32).toNatClampNeg) ≤ 623463 by omega, show (20000 + 30 * (x8 : Int32).toNatClampNeg) ≤ 7231235 by omega⟩) hS (fun H locs hP hS => ?_)
        refine lv_if_lt (tgt := 349) hx hb dL_law_335 (by decide) (fun c72 => ?_) (fun c72 => ?_)
        · replace hf := (if_pos c72).symm.trans hf
          refine lv_iconst (v := 0) hx hb dL_law_349 (by decide) ?_
          refine lv_istore (lv' := [(6, .int 0), (5, .int (2 + u68)), (0, .ref b), (1, .ref (E.2.1 0)), (2, .int x2), (3, .int x3), (4, .int x4), (7, .int x7), (8, .int x8), (9, .int x9), (10, .int x10)]) hx hb dL_law_350 hl (by decide) rfl (fun ls hl => ?_)
          refine lv_goto (tgt := 487) hx hb dL_law_352 (by decide) ?_
          refine lv_iinc (v := (x8 + 1)) (lv' := [(8, .int (x8 + 1)), (6, .int 0), (5, .int (2 + u68)), (0, .ref b), (1, .ref (E.2.1 0)), (2, .int x2), (3, .int x3), (4, .int x4), (7, .int x7), (9, .int x9), (10, .int x10)]) hx hb dL_law_487 hl (k := 8) rfl rfl (by decide) rfl (fun ls hl => ?_)
          refine lv_goto (tgt := 70) hx hb dL_law_490 (by decide) ?_
          refine W.widen (k := (200 + 5 * ((x8 + 1) : Int32).toNatClampNeg)) (n := (20000 + 30 * ((x8 + 1) : Int32).toNatClampNeg)) (by omega) (by omega) ?_
          exact hK70 u70.2 a x2 x3 x4 (2 + u68) 0 x7 (x8 + 1) _ _ _ hP hS (lv_sub hl [3, 4, 5, 6, 7, 2, 1, 8, 0] rfl) hf
        · replace hf := (if_neg c72).symm.trans hf
          refine lv_aload_n hx hb dL_law_338 rfl (lv_at hl 2 rfl) ?_
          obtain ⟨u73, e74, hf⟩ := bd_some hf
          refine xci (gRunV (rest := []) (As := []) (C := RX11) (k := 0) C0 (c_X11_solve l E u70.2 a e74) bw719 bw820 bw13 bw821 bw822 hd_X11_solve ⟨Nat.le_of_ble_eq_true rfl, Nat.le_of_ble_eq_true rfl⟩ hP (wX_D hD) hS (va_recv hK hP (ci := 11) rfl (gx_0 E u70.2 a)) rfl hl.1 rfl (Nat.le_of_ble_eq_true rfl) dL_law_339 ⟨show (200 + 5 * (x8 : Int32).toNatClampNeg) ≤ 623463 by omega, show (20000 + 30 * (x8 : Int32).toNatClampNeg) ≤ 7231235 by omega⟩) hS (fun H locs hP hS => ?_)
          refine lv_if_ne (tgt := 349) hx hb dL_law_342 (by decide) (fun c75 => ?_) (fun c75 => ?_)
          · replace hf := (if_neg c75).symm.trans hf
            refine lv_iconst (v := 0) hx hb dL_law_349 (by decide) ?_
            refine lv_istore (lv' := [(6, .int 0), (5, .int (2 + u68)), (0, .ref b), (1, .ref (E.2.1 0)), (2, .int x2), (3, .int x3), (4, .int x4), (7, .int x7), (8, .int x8), (9, .int x9), (10, .int x10)]) hx hb dL_law_350 hl (by decide) rfl (fun ls hl => ?_)
            refine lv_goto (tgt := 487) hx hb dL_law_352 (by decide) ?_
            refine lv_iinc (v := (x8 + 1)) (lv' := [(8, .int (x8 + 1)), (6, .int 0), (5, .int (2 + u68)), (0, .ref b), (1, .ref (E.2.1 0)), (2, .int x2), (3, .int x3), (4, .int x4), (7, .int x7), (9, .int x9), (10, .int x10)]) hx hb dL_law_487 hl (k := 8) rfl rfl (by decide) rfl (fun ls hl => ?_)
            refine lv_goto (tgt := 70) hx hb dL_law_490 (by decide) ?_
            refine W.widen (k := (200 + 5 * ((x8 + 1) : Int32).toNatClampNeg)) (n := (20000 + 30 * ((x8 + 1) : Int32).toNatClampNeg)) (by omega) (by omega) ?_
            exact hK70 u70.2 u73.2 x2 x3 x4 (2 + u68) 0 x7 (x8 + 1) _ _ _ hP hS (lv_sub hl [3, 4, 5, 6, 7, 2, 1, 8, 0] rfl) hf
          · replace hf := (if_pos c75).symm.trans hf
            refine lv_iconst (v := 1) hx hb dL_law_345 (by decide) ?_
            refine lv_goto (tgt := 350) hx hb dL_law_346 (by decide) ?_
            refine lv_istore (lv' := [(6, .int 1), (5, .int (2 + u68)), (0, .ref b), (1, .ref (E.2.1 0)), (2, .int x2), (3, .int x3), (4, .int x4), (7, .int x7), (8, .int x8), (9, .int x9), (10, .int x10)]) hx hb dL_law_350 hl (by decide) rfl (fun ls hl => ?_)
            refine lv_goto (tgt := 487) hx hb dL_law_352 (by decide) ?_
            refine lv_iinc (v := (x8 + 1)) (lv' := [(8, .int (x8 + 1)), (6, .int 1), (5, .int (2 + u68)), (0, .ref b), (1, .ref (E.2.1 0)), (2, .int x2), (3, .int x3), (4, .int x4), (7, .int x7), (9, .int x9), (10, .int x10)]) hx hb dL_law_487 hl (k := 8) rfl rfl (by decide) rfl (fun ls hl => ?_)
            refine lv_goto (tgt := 70) hx hb dL_law_490 (by decide) ?_
            refine W.widen (k := (200 + 5 * ((x8 + 1) : Int32).toNatClampNeg)) (n := (20000 + 30 * ((x8 + 1) : Int32).toNatClampNeg)) (by omega) (by omega) ?_
            exact hK70 u70.2 u73.2 x2 x3 x4 (2 + u68) 1 x7 (x8 + 1) _ _ _ hP hS (lv_sub hl [3, 4, 5, 6, 7, 2, 1, 8, 0] rfl) hf
    · replace hf := (if_pos c51).symm.trans hf
      refine lv_aload_n hx hb dL_law_270 rfl (lv_at hl 1 rfl) ?_
      refine lv_iload hx hb dL_law_271 (lv_at hl 8 rfl) ?_
      refine lv_iconst (v := 4) hx hb dL_law_273 (by decide) ?_
      refine lv_ishr hx hb dL_law_274 ?_
      refine lv_iload_n hx hb dL_law_275 rfl (lv_at hl 3 rfl) ?_
      refine lv_iload hx hb dL_law_276 (lv_at hl 4 rfl) ?_
      obtain ⟨u76, e77, hf⟩ := bd_some hf
      refine gci (gRunU (rest := []) (As := [.ref (E.2.1 0), .int ((x9 : Int32) >>> ((4 : Int32) &&& 31)), .int x3, .int x4]) (k := 4) C0 (c_L_formula l hstk E g a ((x9 : Int32) >>> ((4 : Int32) &&& 31)) x3 x4 e77) bw848 bw866 bw742 bw867 hd_L_formula ⟨Nat.le_of_ble_eq_true rfl, Nat.le_of_ble_eq_true rfl⟩ hP (wX_D hD) hS rfl hl.1 rfl (Nat.le_of_ble_eq_true rfl) dL_law_278 ⟨show (200 + 5 * (x8 : Int32).toNatClampNeg) + 5 ≤ 623463 by omega, show (20000 + 30 * (x8 : Int32).toNatClampNeg) + 30 ≤ 7231235 by omega⟩) hS (fun H locs hP hS => ?_)
      refine W.widen (k := (205 + 5 * (x8 : Int32).toNatClampNeg)) (n := (20030 + 30 * (x8 : Int32).toNatClampNeg)) (by omega) (by omega) ?_
      refine lv_istore (lv' := [(11, .int u76.1), (0, .ref b), (1, .ref (E.2.1 0)), (2, .int x2), (3, .int x3), (4, .int x4), (5, .int x5), (7, .int x7), (8, .int x8), (9, .int x9), (10, .int x10)]) hx hb dL_law_281 hl (by decide) rfl (fun ls hl => ?_)
      refine lv_iload hx hb dL_law_283 (lv_at hl 0 rfl) ?_
      refine lv_if_le (tgt := 292) hx hb dL_law_285 (by decide) (fun c78 => ?_) (fun c78 => ?_)
      · replace hf := (if_pos c78).symm.trans hf
        refine lv_iconst (v := 0) hx hb dL_law_292 (by decide) ?_
        exact B293 K70 hK70 u76.2.1 u76.2.2 x2 x3 x4 x5 x7 x8 u76.1 0 _ _ _ hP hS (lv_sub hl [1, 2, 3, 4, 5, 6, 7, 8, 0] rfl) hf
      · replace hf := (if_neg c78).symm.trans hf
        refine lv_iconst (v := 1) hx hb dL_law_288 (by decide) ?_
        refine lv_goto (tgt := 293) hx hb dL_law_289 (by decide) ?_
        exact B293 K70 hK70 u76.2.1 u76.2.2 x2 x3 x4 x5 x7 x8 u76.1 1 _ _ _ hP hS (lv_sub hl [1, 2, 3, 4, 5, 6, 7, 8, 0] rfl) hf
  have B493 : ∀ (g : xG) (a : xA) (x2 : Int32) (x3 : Int32) (x4 : Int32) (x5 : Int32) (x6 : Int32) (H : Heap) (locs : List Loc) (ls : Array Slot), va_P E.1 vwCl (wX E g a) H → va_S (A0 s) s.heap H locs → lv_has ls 14 [(1, .ref (E.2.1 0)), (2, .int x2), (3, .int x3), (4, .int x4), (5, .int x5), (6, .int x6)] → f_L_law_493 L xs g a x2 x3 x4 x5 x6 = some res → W p l e room_1 s m #[Value.ref b] below meth c H locs 405 21230 (lw_Z below #[Value.ref b] s) (F0 m 493 ls []) := by
    intro g a x2 x3 x4 x5 x6 H locs ls hP hS hl hf
    unfold f_L_law_493 at hf
    refine lv_iload hx hb dL_law_493 (lv_at hl 5 rfl) ?_
    refine lv_if_eq (tgt := 549) hx hb dL_law_495 (by decide) (fun c90 => ?_) (fun c90 => ?_)
    · replace hf := (if_pos c90).symm.trans hf
      refine lv_iconst (v := 0) hx hb dL_law_549 (by decide) ?_
      exact absurd ((Option.some.inj hf).trans hres) (by decide)
    · replace hf := (if_neg c90).symm.trans hf
      refine lv_aload_n hx hb dL_law_498 rfl (lv_at hl 0 rfl) ?_
      refine lv_iload_n hx hb dL_law_499 rfl (lv_at hl 2 rfl) ?_
      refine lv_iload hx hb dL_law_500 (lv_at hl 3 rfl) ?_
      obtain ⟨u91, e92, hf⟩ := bd_some hf
      refine xci (gRunS (rest := []) (As := [.ref (E.2.1 0), .int x3, .int x4]) (k := 3) C0 (c_L_relations l E g a x3 x4 e92) bw794 bw873 bw742 bw874 hd_L_relations ⟨Nat.le_of_ble_eq_true rfl, Nat.le_of_ble_eq_true rfl⟩ hP (wX_D hD) hS rfl hl.1 rfl (Nat.le_of_ble_eq_true rfl) dL_law_502 ⟨show 405 ≤ 623463 by omega, show 21230 ≤ 7231235 by omega⟩) hS (fun H locs hP hS => ?_)
      refine lv_if_eq (tgt := 549) hx hb dL_law_505 (by decide) (fun c93 => ?_) (fun c93 => ?_)
      · replace hf := (if_pos c93).symm.trans hf
        refine lv_iconst (v := 0) hx hb dL_law_549 (by decide) ?_
        exact absurd ((Option.some.inj hf).trans hres) (by decide)
      · replace hf := (if_neg c93).symm.trans hf
        refine lv_aload_n hx hb dL_law_508 rfl (lv_at hl 0 rfl) ?_
        refine lv_iload_n hx hb dL_law_509 rfl (lv_at hl 2 rfl) ?_
        obtain ⟨u94, e95, hf⟩ := bd_some hf
        refine gci (gRunU (rest := []) (As := [.ref (E.2.1 0), .int x3]) (k := 2) C0 (c_L_surrounded l hstk E u91.2.1 u91.2.2 x3 e95) bw797 bw877 bw742 bw878 hd_L_surrounded ⟨Nat.le_of_ble_eq_true rfl, Nat.le_of_ble_eq_true rfl⟩ hP (wX_D hD) hS rfl hl.1 rfl (Nat.le_of_ble_eq_true rfl) dL_law_510 ⟨show 405 + 4 ≤ 623463 by omega, show 21230 + 24 ≤ 7231235 by omega⟩) hS (fun H locs hP hS => ?_)
        refine W.widen (k := 409) (n := 21254) (by omega) (by omega) ?_
        refine lv_if_eq (tgt := 549) hx hb dL_law_513 (by decide) (fun c96 => ?_) (fun c96 => ?_)
        · replace hf := (if_pos c96).symm.trans hf
          refine lv_iconst (v := 0) hx hb dL_law_549 (by decide) ?_
          exact absurd ((Option.some.inj hf).trans hres) (by decide)
        · replace hf := (if_neg c96).symm.trans hf
          refine lv_aload_n hx hb dL_law_516 rfl (lv_at hl 0 rfl) ?_
          refine lv_iload_n hx hb dL_law_517 rfl (lv_at hl 1 rfl) ?_
          obtain ⟨u97, e98, hf⟩ := bd_some hf
          refine xci (gRunS (rest := []) (As := [.ref (E.2.1 0), .int x2]) (k := 2) C0 (c_L_templates l E u94.2.1 u94.2.2 x2 e98) bw815 bw879 bw742 bw880 hd_L_templates ⟨Nat.le_of_ble_eq_true rfl, Nat.le_of_ble_eq_true rfl⟩ hP (wX_D hD) hS rfl hl.1 rfl (Nat.le_of_ble_eq_true rfl) dL_law_518 ⟨show 409 ≤ 623463 by omega, show 21254 ≤ 7231235 by omega⟩) hS (fun H locs hP hS => ?_)
          refine lv_if_eq (tgt := 549) hx hb dL_law_521 (by decide) (fun c99 => ?_) (fun c99 => ?_)
          · replace hf := (if_pos c99).symm.trans hf
            refine lv_iconst (v := 0) hx hb dL_law_549 (by decide) ?_
            exact absurd ((Option.some.inj hf).trans hres) (by decide)
          · replace hf := (if_neg c99).symm.trans hf
            refine lv_aload_n hx hb dL_law_524 rfl (lv_at hl 0 rfl) ?_
            refine lv_iload_n hx hb dL_law_525 rfl (lv_at hl 1 rfl) ?_
            refine lv_iload hx hb dL_law_526 (lv_at hl 4 rfl) ?_
            obtain ⟨u100, e101, hf⟩ := bd_some hf
            refine xci (gRunS (rest := []) (As := [.ref (E.2.1 0), .int x2, .int x5]) (k := 3) C0 (c_L_instances l E u97.2.1 u97.2.2 x2 x5 e101) bw834 bw875 bw742 bw876 hd_L_instances ⟨Nat.le_of_ble_eq_true rfl, Nat.le_of_ble_eq_true rfl⟩ hP (wX_D hD) hS rfl hl.1 rfl (Nat.le_of_ble_eq_true rfl) dL_law_528 ⟨show 409 ≤ 623463 by omega, show 21254 ≤ 7231235 by omega⟩) hS (fun H locs hP hS => ?_)
            refine lv_if_eq (tgt := 549) hx hb dL_law_531 (by decide) (fun c102 => ?_) (fun c102 => ?_)
            · replace hf := (if_pos c102).symm.trans hf
              refine lv_iconst (v := 0) hx hb dL_law_549 (by decide) ?_
              exact absurd ((Option.some.inj hf).trans hres) (by decide)
            · replace hf := (if_neg c102).symm.trans hf
              refine lv_aload_n hx hb dL_law_534 rfl (lv_at hl 0 rfl) ?_
              refine lv_bipush (v := 97) hx hb dL_law_535 (by decide) ?_
              obtain ⟨u103, e104, hf⟩ := bd_some hf
              refine gci (gRunW (rest := []) (As := [.ref (E.2.1 0), .int 97]) (k := 2) C0 (c_L_ends l hstk E u97.2.1 u100.2 97 e104) bw770 bw881 bw742 bw882 hd_L_ends ⟨Nat.le_of_ble_eq_true rfl, Nat.le_of_ble_eq_true rfl⟩ hP (wX_D hD) hS rfl hl.1 rfl (Nat.le_of_ble_eq_true rfl) dL_law_537 ⟨show 409 + 1 ≤ 623463 by omega, show 21254 + 6 ≤ 7231235 by omega⟩) hS (fun H locs hP hS => ?_)
              refine W.widen (k := 410) (n := 21260) (by omega) (by omega) ?_
              refine lv_bipush (v := (-9)) hx hb dL_law_540 (by decide) ?_
              refine lv_icmp_lt (tgt := 549) hx hb dL_law_542 (by decide) (fun c105 => ?_) (fun c105 => ?_)
              · replace hf := (if_pos c105).symm.trans hf
                refine lv_iconst (v := 0) hx hb dL_law_549 (by decide) ?_
                exact absurd ((Option.some.inj hf).trans hres) (by decide)
              · replace hf := (if_neg c105).symm.trans hf
                refine lv_iconst (v := 1) hx hb dL_law_545 (by decide) ?_
                refine lv_goto (tgt := 550) hx hb dL_law_546 (by decide) ?_
                refine va_forget (fun q hq => hS.2.2 q hq) ?_
                refine W.widen (k := 623463) (n := 7231235) (by omega) (by omega) ?_
                exact lw_ret hx hb hr hlocks dL_law_550
  have B70 : ∀ (n : Nat) (g : xG) (a : xA) (x2 : Int32) (x3 : Int32) (x4 : Int32) (x5 : Int32) (x6 : Int32) (x7 : Int32) (x8 : Int32) (H : Heap) (locs : List Loc) (ls : Array Slot), va_P E.1 vwCl (wX E g a) H → va_S (A0 s) s.heap H locs → lv_has ls 14 [(0, .ref b), (1, .ref (E.2.1 0)), (2, .int x2), (3, .int x3), (4, .int x4), (5, .int x5), (6, .int x6), (7, .int x7), (8, .int x8)] → f_L_law_70 L xs n g a x2 x3 x4 x5 x6 x7 x8 = some res → W p l e room_1 s m #[Value.ref b] below meth c H locs (200 + 5 * (x8 : Int32).toNatClampNeg) (20000 + 30 * (x8 : Int32).toNatClampNeg) (lw_Z below #[Value.ref b] s) (F0 m 70 ls []) := by
    intro n
    induction n with
    | zero => intro g a x2 x3 x4 x5 x6 x7 x8 H locs ls hP hS hl hf; exact absurd (show (none : Option (Int32)) = some res from hf) (by intro h; cases h)
    | succ n ih =>
      intro g a x2 x3 x4 x5 x6 x7 x8 H locs ls hP hS hl hf
      replace hf := (e_L_law_70 L xs n g a x2 x3 x4 x5 x6 x7 x8).symm.trans hf
      obtain ⟨k13, hf⟩ := ck_some hf
      obtain ⟨hq1, hq2⟩ := nc_f (by decide) k13
      refine lv_iload hx hb dL_law_70 (lv_at hl 8 rfl) ?_
      refine lv_iload hx hb dL_law_72 (lv_at hl 7 rfl) ?_
      refine lv_icmp_ge (tgt := 493) hx hb dL_law_74 (by decide) (fun c14 => ?_) (fun c14 => ?_)
      · replace hf := (if_pos c14).symm.trans hf
        refine W.widen (k := 405) (n := 21230) (by omega) (by omega) ?_
        exact B493 g a x2 x3 x4 x5 x6 _ _ _ hP hS (lv_sub hl [1, 2, 3, 4, 5, 6] rfl) hf
      · replace hf := (if_neg c14).symm.trans hf
        refine lv_iload hx hb dL_law_77 (lv_at hl 6 rfl) ?_
        refine lv_if_eq (tgt := 493) hx hb dL_law_79 (by decide) (fun c15 => ?_) (fun c15 => ?_)
        · replace hf := (if_pos c15).symm.trans hf
          refine W.widen (k := 405) (n := 21230) (by omega) (by omega) ?_
          exact B493 g a x2 x3 x4 x5 x6 _ _ _ hP hS (lv_sub hl [1, 2, 3, 4, 5, 6] rfl) hf
        · replace hf := (if_neg c15).symm.trans hf
          refine lv_aload_n hx hb dL_law_82 rfl (lv_at hl 0 rfl) ?_
          refine lv_iconst (v := 2) hx hb dL_law_83 (by decide) ?_
          refine lv_iload hx hb dL_law_84 (lv_at hl 8 rfl) ?_
          refine lv_iadd hx hb dL_law_86 ?_
          obtain ⟨k16, hf⟩ := ck_some hf
          refine gcell C0 hL hX hbl hbA k16 bw853 ⟨Nat.le_of_ble_eq_true rfl, Nat.le_of_ble_eq_true rfl⟩ hP hS hl.1 (Nat.le_of_ble_eq_true rfl) dL_law_87 ⟨show (200 + 5 * (x8 : Int32).toNatClampNeg) ≤ 623463 by omega, show (20000 + 30 * (x8 : Int32).toNatClampNeg) ≤ 7231235 by omega⟩ (fun H locs hP hS => ?_)
          refine lv_istore (lv' := [(9, .int (cellF L xs (2 + x8))), (0, .ref b), (1, .ref (E.2.1 0)), (2, .int x2), (3, .int x3), (4, .int x4), (5, .int x5), (6, .int x6), (7, .int x7), (8, .int x8)]) hx hb dL_law_90 hl (by decide) rfl (fun ls hl => ?_)
          refine lv_iload hx hb dL_law_92 (lv_at hl 0 rfl) ?_
          refine lv_bipush (v := 13) hx hb dL_law_94 (by decide) ?_
          obtain ⟨u17, e18, hf⟩ := bd_some hf
          refine xci (gRunS (rest := []) (As := [.int (cellF L xs (2 + x8)), .int 13]) (k := 2) C0 (c_L_low l E g a (cellF L xs (2 + x8)) 13 e18) bw730 bw740 bw742 bw741 hd_L_low ⟨Nat.le_of_ble_eq_true rfl, Nat.le_of_ble_eq_true rfl⟩ hP (wX_D hD) hS rfl hl.1 rfl (Nat.le_of_ble_eq_true rfl) dL_law_96 ⟨show (200 + 5 * (x8 : Int32).toNatClampNeg) ≤ 623463 by omega, show (20000 + 30 * (x8 : Int32).toNatClampNeg) ≤ 7231235 by omega⟩) hS (fun H locs hP hS => ?_)
          refine lv_istore (lv' := [(10, .int u17), (9, .int (cellF L xs (2 + x8))), (0, .ref b), (1, .ref (E.2.1 0)), (2, .int x2), (3, .int x3), (4, .int x4), (5, .int x5), (6, .int x6), (7, .int x7), (8, .int x8)]) hx hb dL_law_99 hl (by decide) rfl (fun ls hl => ?_)
          refine lv_iload hx hb dL_law_101 (lv_at hl 0 rfl) ?_
          refine lv_iconst (v := 4) hx hb dL_law_103 (by decide) ?_
          refine lv_icmp_ge (tgt := 150) hx hb dL_law_104 (by decide) (fun c19 => ?_) (fun c19 => ?_)
          · replace hf := (if_pos c19).symm.trans hf
            refine lv_iload hx hb dL_law_150 (lv_at hl 0 rfl) ?_
            refine lv_iconst (v := 4) hx hb dL_law_152 (by decide) ?_
            refine lv_icmp_ne (tgt := 184) hx hb dL_law_153 (by decide) (fun c20 => ?_) (fun c20 => ?_)
            · replace hf := (if_neg c20).symm.trans hf
              refine lv_iload hx hb dL_law_184 (lv_at hl 0 rfl) ?_
              refine lv_iconst (v := 5) hx hb dL_law_186 (by decide) ?_
              refine lv_icmp_ne (tgt := 215) hx hb dL_law_187 (by decide) (fun c21 => ?_) (fun c21 => ?_)
              · replace hf := (if_neg c21).symm.trans hf
                refine lv_iload hx hb dL_law_215 (lv_at hl 0 rfl) ?_
                refine lv_bipush (v := 6) hx hb dL_law_217 (by decide) ?_
                refine lv_icmp_ne (tgt := 263) hx hb dL_law_219 (by decide) (fun c22 => ?_) (fun c22 => ?_)
                · replace hf := (if_neg c22).symm.trans hf
                  exact B263 (f_L_law_70 L xs n) ih g a x2 x3 x4 x5 x7 x8 (cellF L xs (2 + x8)) u17 _ _ _ hP hS (lv_sub hl [2, 3, 4, 5, 6, 7, 9, 10, 1, 0] rfl) hf
                · replace hf := (if_pos c22).symm.trans hf
                  refine lv_iload hx hb dL_law_222 (lv_at hl 6 rfl) ?_
                  refine lv_if_le (tgt := 263) hx hb dL_law_224 (by decide) (fun c23 => ?_) (fun c23 => ?_)
                  · replace hf := (if_pos c23).symm.trans hf
                    exact B263 (f_L_law_70 L xs n) ih g a x2 x3 x4 x5 x7 x8 (cellF L xs (2 + x8)) u17 _ _ _ hP hS (lv_sub hl [2, 3, 4, 5, 6, 7, 9, 10, 1, 0] rfl) hf
                  · replace hf := (if_neg c23).symm.trans hf
                    refine lv_aload_n hx hb dL_law_227 rfl (lv_at hl 3 rfl) ?_
                    refine lv_iload hx hb dL_law_228 (lv_at hl 1 rfl) ?_
                    refine lv_iconst (v := 4) hx hb dL_law_230 (by decide) ?_
                    refine lv_ishr hx hb dL_law_231 ?_
                    refine lv_iload hx hb dL_law_232 (lv_at hl 6 rfl) ?_
                    obtain ⟨u24, e25, hf⟩ := bd_some hf
                    refine xci (gRunS (rest := [.ref (E.2.1 0)]) (As := [.int (((cellF L xs (2 + x8)) : Int32) >>> ((4 : Int32) &&& 31)), .int x4]) (k := 2) C0 (c_L_low l E g a (((cellF L xs (2 + x8)) : Int32) >>> ((4 : Int32) &&& 31)) x4 e25) bw730 bw740 bw742 bw741 hd_L_low ⟨Nat.le_of_ble_eq_true rfl, Nat.le_of_ble_eq_true rfl⟩ hP (wX_D hD) hS rfl hl.1 rfl (Nat.le_of_ble_eq_true rfl) dL_law_234 ⟨show (200 + 5 * (x8 : Int32).toNatClampNeg) ≤ 623463 by omega, show (20000 + 30 * (x8 : Int32).toNatClampNeg) ≤ 7231235 by omega⟩) hS (fun H locs hP hS => ?_)
                    refine lv_iload hx hb dL_law_237 (lv_at hl 1 rfl) ?_
                    refine lv_bipush (v := 7) hx hb dL_law_239 (by decide) ?_
                    refine lv_ishr hx hb dL_law_241 ?_
                    refine lv_bipush (v := 9) hx hb dL_law_242 (by decide) ?_
                    obtain ⟨u26, e27, hf⟩ := bd_some hf
                    refine xci (gRunS (rest := [.int u24, .ref (E.2.1 0)]) (As := [.int (((cellF L xs (2 + x8)) : Int32) >>> ((7 : Int32) &&& 31)), .int 9]) (k := 2) C0 (c_L_low l E g a (((cellF L xs (2 + x8)) : Int32) >>> ((7 : Int32) &&& 31)) 9 e27) bw730 bw740 bw742 bw741 hd_L_low ⟨Nat.le_of_ble_eq_true rfl, Nat.le_of_ble_eq_true rfl⟩ hP (wX_D hD) hS rfl hl.1 rfl (Nat.le_of_ble_eq_true rfl) dL_law_244 ⟨show (200 + 5 * (x8 : Int32).toNatClampNeg) ≤ 623463 by omega, show (20000 + 30 * (x8 : Int32).toNatClampNeg) ≤ 7231235 by omega⟩) hS (fun H locs hP hS => ?_)
                    refine lv_iload hx hb dL_law_247 (lv_at hl 1 rfl) ?_
                    refine lv_bipush (v := 11) hx hb dL_law_249 (by decide) ?_
                    refine lv_ishr hx hb dL_law_251 ?_
                    refine lv_iload_n hx hb dL_law_252 rfl (lv_at hl 4 rfl) ?_
                    obtain ⟨u28, e29, hf⟩ := bd_some hf
                    refine xci (gRunS (rest := [.int u26, .int u24, .ref (E.2.1 0)]) (As := [.int (((cellF L xs (2 + x8)) : Int32) >>> ((11 : Int32) &&& 31)), .int x2]) (k := 2) C0 (c_L_low l E g a (((cellF L xs (2 + x8)) : Int32) >>> ((11 : Int32) &&& 31)) x2 e29) bw730 bw740 bw742 bw741 hd_L_low ⟨Nat.le_of_ble_eq_true rfl, Nat.le_of_ble_eq_true rfl⟩ hP (wX_D hD) hS rfl hl.1 rfl (Nat.le_of_ble_eq_true rfl) dL_law_253 ⟨show (200 + 5 * (x8 : Int32).toNatClampNeg) ≤ 623463 by omega, show (20000 + 30 * (x8 : Int32).toNatClampNeg) ≤ 7231235 by omega⟩) hS (fun H locs hP hS => ?_)
                    obtain ⟨u30, e31, hf⟩ := bd_some hf
                    refine gci (gRunW (rest := []) (As := [.ref (E.2.1 0), .int u24, .int u26, .int u28]) (k := 4) C0 (c_L_tells l hstk E g a u24 u26 u28 e31) bw758 bw864 bw742 bw865 hd_L_tells ⟨Nat.le_of_ble_eq_true rfl, Nat.le_of_ble_eq_true rfl⟩ hP (wX_D hD) hS rfl hl.1 rfl (Nat.le_of_ble_eq_true rfl) dL_law_256 ⟨show (200 + 5 * (x8 : Int32).toNatClampNeg) + 1 ≤ 623463 by omega, show (20000 + 30 * (x8 : Int32).toNatClampNeg) + 6 ≤ 7231235 by omega⟩) hS (fun H locs hP hS => ?_)
                    refine W.widen (k := (201 + 5 * (x8 : Int32).toNatClampNeg)) (n := (20006 + 30 * (x8 : Int32).toNatClampNeg)) (by omega) (by omega) ?_
                    refine lv_pop hx hb dL_law_259 rfl ?_
                    refine lv_goto (tgt := 487) hx hb dL_law_260 (by decide) ?_
                    refine lv_iinc (v := (x8 + 1)) (lv' := [(8, .int (x8 + 1)), (10, .int u17), (9, .int (cellF L xs (2 + x8))), (0, .ref b), (1, .ref (E.2.1 0)), (2, .int x2), (3, .int x3), (4, .int x4), (5, .int x5), (6, .int x6), (7, .int x7)]) hx hb dL_law_487 hl (k := 10) rfl rfl (by decide) rfl (fun ls hl => ?_)
                    refine lv_goto (tgt := 70) hx hb dL_law_490 (by decide) ?_
                    refine W.widen (k := (200 + 5 * ((x8 + 1) : Int32).toNatClampNeg)) (n := (20000 + 30 * ((x8 + 1) : Int32).toNatClampNeg)) (by omega) (by omega) ?_
                    exact ih u30.2.1 u30.2.2 x2 x3 x4 x5 x6 x7 (x8 + 1) _ _ _ hP hS (lv_sub hl [3, 4, 5, 6, 7, 8, 9, 10, 0] rfl) hf
              · replace hf := (if_pos c21).symm.trans hf
                refine lv_aload_n hx hb dL_law_190 rfl (lv_at hl 3 rfl) ?_
                refine lv_iload hx hb dL_law_191 (lv_at hl 1 rfl) ?_
                refine lv_iconst (v := 4) hx hb dL_law_193 (by decide) ?_
                refine lv_ishr hx hb dL_law_194 ?_
                obtain ⟨u32, e33, hf⟩ := bd_some hf
                refine gci (gRunW (rest := []) (As := [.ref (E.2.1 0), .int (((cellF L xs (2 + x8)) : Int32) >>> ((4 : Int32) &&& 31))]) (k := 2) C0 (c_L_takes l hstk E g a (((cellF L xs (2 + x8)) : Int32) >>> ((4 : Int32) &&& 31)) e33) bw749 bw862 bw742 bw863 hd_L_takes ⟨Nat.le_of_ble_eq_true rfl, Nat.le_of_ble_eq_true rfl⟩ hP (wX_D hD) hS rfl hl.1 rfl (Nat.le_of_ble_eq_true rfl) dL_law_195 ⟨show (200 + 5 * (x8 : Int32).toNatClampNeg) + 1 ≤ 623463 by omega, show (20000 + 30 * (x8 : Int32).toNatClampNeg) + 6 ≤ 7231235 by omega⟩) hS (fun H locs hP hS => ?_)
                refine W.widen (k := (201 + 5 * (x8 : Int32).toNatClampNeg)) (n := (20006 + 30 * (x8 : Int32).toNatClampNeg)) (by omega) (by omega) ?_
                refine lv_if_lt (tgt := 208) hx hb dL_law_198 (by decide) (fun c34 => ?_) (fun c34 => ?_)
                · replace hf := (if_pos c34).symm.trans hf
                  refine lv_iload hx hb dL_law_208 (lv_at hl 6 rfl) ?_
                  refine lv_istore (lv' := [(4, .int x4), (10, .int u17), (9, .int (cellF L xs (2 + x8))), (0, .ref b), (1, .ref (E.2.1 0)), (2, .int x2), (3, .int x3), (5, .int x5), (6, .int x6), (7, .int x7), (8, .int x8)]) hx hb dL_law_210 hl (by decide) rfl (fun ls hl => ?_)
                  refine lv_goto (tgt := 487) hx hb dL_law_212 (by decide) ?_
                  refine lv_iinc (v := (x8 + 1)) (lv' := [(8, .int (x8 + 1)), (4, .int x4), (10, .int u17), (9, .int (cellF L xs (2 + x8))), (0, .ref b), (1, .ref (E.2.1 0)), (2, .int x2), (3, .int x3), (5, .int x5), (6, .int x6), (7, .int x7)]) hx hb dL_law_487 hl (k := 10) rfl rfl (by decide) rfl (fun ls hl => ?_)
                  refine lv_goto (tgt := 70) hx hb dL_law_490 (by decide) ?_
                  refine W.widen (k := (200 + 5 * ((x8 + 1) : Int32).toNatClampNeg)) (n := (20000 + 30 * ((x8 + 1) : Int32).toNatClampNeg)) (by omega) (by omega) ?_
                  exact ih u32.2.1 u32.2.2 x2 x3 x4 x5 x6 x7 (x8 + 1) _ _ _ hP hS (lv_sub hl [4, 5, 6, 7, 1, 8, 9, 10, 0] rfl) hf
                · replace hf := (if_neg c34).symm.trans hf
                  refine lv_iload hx hb dL_law_201 (lv_at hl 6 rfl) ?_
                  refine lv_iconst (v := 1) hx hb dL_law_203 (by decide) ?_
                  refine lv_iadd hx hb dL_law_204 ?_
                  refine lv_goto (tgt := 210) hx hb dL_law_205 (by decide) ?_
                  refine lv_istore (lv' := [(4, .int (x4 + 1)), (10, .int u17), (9, .int (cellF L xs (2 + x8))), (0, .ref b), (1, .ref (E.2.1 0)), (2, .int x2), (3, .int x3), (5, .int x5), (6, .int x6), (7, .int x7), (8, .int x8)]) hx hb dL_law_210 hl (by decide) rfl (fun ls hl => ?_)
                  refine lv_goto (tgt := 487) hx hb dL_law_212 (by decide) ?_
                  refine lv_iinc (v := (x8 + 1)) (lv' := [(8, .int (x8 + 1)), (4, .int (x4 + 1)), (10, .int u17), (9, .int (cellF L xs (2 + x8))), (0, .ref b), (1, .ref (E.2.1 0)), (2, .int x2), (3, .int x3), (5, .int x5), (6, .int x6), (7, .int x7)]) hx hb dL_law_487 hl (k := 10) rfl rfl (by decide) rfl (fun ls hl => ?_)
                  refine lv_goto (tgt := 70) hx hb dL_law_490 (by decide) ?_
                  refine W.widen (k := (200 + 5 * ((x8 + 1) : Int32).toNatClampNeg)) (n := (20000 + 30 * ((x8 + 1) : Int32).toNatClampNeg)) (by omega) (by omega) ?_
                  exact ih u32.2.1 u32.2.2 x2 x3 (x4 + 1) x5 x6 x7 (x8 + 1) _ _ _ hP hS (lv_sub hl [4, 5, 6, 7, 1, 8, 9, 10, 0] rfl) hf
            · replace hf := (if_pos c20).symm.trans hf
              refine lv_aload_n hx hb dL_law_156 rfl (lv_at hl 3 rfl) ?_
              refine lv_iconst (v := 1) hx hb dL_law_157 (by decide) ?_
              refine lv_iload hx hb dL_law_158 (lv_at hl 1 rfl) ?_
              refine lv_iconst (v := 4) hx hb dL_law_160 (by decide) ?_
              refine lv_ishr hx hb dL_law_161 ?_
              refine lv_iconst (v := 3) hx hb dL_law_162 (by decide) ?_
              obtain ⟨u35, e36, hf⟩ := bd_some hf
              refine xci (gRunS (rest := [.int 1, .ref (E.2.1 0)]) (As := [.int (((cellF L xs (2 + x8)) : Int32) >>> ((4 : Int32) &&& 31)), .int 3]) (k := 2) C0 (c_L_low l E g a (((cellF L xs (2 + x8)) : Int32) >>> ((4 : Int32) &&& 31)) 3 e36) bw730 bw740 bw742 bw741 hd_L_low ⟨Nat.le_of_ble_eq_true rfl, Nat.le_of_ble_eq_true rfl⟩ hP (wX_D hD) hS rfl hl.1 rfl (Nat.le_of_ble_eq_true rfl) dL_law_163 ⟨show (200 + 5 * (x8 : Int32).toNatClampNeg) ≤ 623463 by omega, show (20000 + 30 * (x8 : Int32).toNatClampNeg) ≤ 7231235 by omega⟩) hS (fun H locs hP hS => ?_)
              refine lv_iadd hx hb dL_law_166 ?_
              obtain ⟨u37, e38, hf⟩ := bd_some hf
              refine gci (gRunW (rest := []) (As := [.ref (E.2.1 0), .int (1 + u35)]) (k := 2) C0 (c_L_relates l hstk E g a (1 + u35) e38) bw739 bw860 bw742 bw861 hd_L_relates ⟨Nat.le_of_ble_eq_true rfl, Nat.le_of_ble_eq_true rfl⟩ hP (wX_D hD) hS rfl hl.1 rfl (Nat.le_of_ble_eq_true rfl) dL_law_167 ⟨show (200 + 5 * (x8 : Int32).toNatClampNeg) + 1 ≤ 623463 by omega, show (20000 + 30 * (x8 : Int32).toNatClampNeg) + 6 ≤ 7231235 by omega⟩) hS (fun H locs hP hS => ?_)
              refine W.widen (k := (201 + 5 * (x8 : Int32).toNatClampNeg)) (n := (20006 + 30 * (x8 : Int32).toNatClampNeg)) (by omega) (by omega) ?_
              refine lv_if_lt (tgt := 179) hx hb dL_law_170 (by decide) (fun c39 => ?_) (fun c39 => ?_)
              · replace hf := (if_pos c39).symm.trans hf
                refine lv_iload_n hx hb dL_law_179 rfl (lv_at hl 5 rfl) ?_
                refine lv_istore_n (lv' := [(3, .int x3), (10, .int u17), (9, .int (cellF L xs (2 + x8))), (0, .ref b), (1, .ref (E.2.1 0)), (2, .int x2), (4, .int x4), (5, .int x5), (6, .int x6), (7, .int x7), (8, .int x8)]) hx hb dL_law_180 rfl hl (by decide) rfl (fun ls hl => ?_)
                refine lv_goto (tgt := 487) hx hb dL_law_181 (by decide) ?_
                refine lv_iinc (v := (x8 + 1)) (lv' := [(8, .int (x8 + 1)), (3, .int x3), (10, .int u17), (9, .int (cellF L xs (2 + x8))), (0, .ref b), (1, .ref (E.2.1 0)), (2, .int x2), (4, .int x4), (5, .int x5), (6, .int x6), (7, .int x7)]) hx hb dL_law_487 hl (k := 10) rfl rfl (by decide) rfl (fun ls hl => ?_)
                refine lv_goto (tgt := 70) hx hb dL_law_490 (by decide) ?_
                refine W.widen (k := (200 + 5 * ((x8 + 1) : Int32).toNatClampNeg)) (n := (20000 + 30 * ((x8 + 1) : Int32).toNatClampNeg)) (by omega) (by omega) ?_
                exact ih u37.2.1 u37.2.2 x2 x3 x4 x5 x6 x7 (x8 + 1) _ _ _ hP hS (lv_sub hl [4, 5, 6, 1, 7, 8, 9, 10, 0] rfl) hf
              · replace hf := (if_neg c39).symm.trans hf
                refine lv_iload_n hx hb dL_law_173 rfl (lv_at hl 5 rfl) ?_
                refine lv_iconst (v := 1) hx hb dL_law_174 (by decide) ?_
                refine lv_iadd hx hb dL_law_175 ?_
                refine lv_goto (tgt := 180) hx hb dL_law_176 (by decide) ?_
                refine lv_istore_n (lv' := [(3, .int (x3 + 1)), (10, .int u17), (9, .int (cellF L xs (2 + x8))), (0, .ref b), (1, .ref (E.2.1 0)), (2, .int x2), (4, .int x4), (5, .int x5), (6, .int x6), (7, .int x7), (8, .int x8)]) hx hb dL_law_180 rfl hl (by decide) rfl (fun ls hl => ?_)
                refine lv_goto (tgt := 487) hx hb dL_law_181 (by decide) ?_
                refine lv_iinc (v := (x8 + 1)) (lv' := [(8, .int (x8 + 1)), (3, .int (x3 + 1)), (10, .int u17), (9, .int (cellF L xs (2 + x8))), (0, .ref b), (1, .ref (E.2.1 0)), (2, .int x2), (4, .int x4), (5, .int x5), (6, .int x6), (7, .int x7)]) hx hb dL_law_487 hl (k := 10) rfl rfl (by decide) rfl (fun ls hl => ?_)
                refine lv_goto (tgt := 70) hx hb dL_law_490 (by decide) ?_
                refine W.widen (k := (200 + 5 * ((x8 + 1) : Int32).toNatClampNeg)) (n := (20000 + 30 * ((x8 + 1) : Int32).toNatClampNeg)) (by omega) (by omega) ?_
                exact ih u37.2.1 u37.2.2 x2 (x3 + 1) x4 x5 x6 x7 (x8 + 1) _ _ _ hP hS (lv_sub hl [4, 5, 6, 1, 7, 8, 9, 10, 0] rfl) hf
          · replace hf := (if_neg c19).symm.trans hf
            refine lv_aload_n hx hb dL_law_107 rfl (lv_at hl 3 rfl) ?_
            refine lv_iload hx hb dL_law_108 (lv_at hl 1 rfl) ?_
            refine lv_iconst (v := 4) hx hb dL_law_110 (by decide) ?_
            refine lv_ishr hx hb dL_law_111 ?_
            refine lv_iload_n hx hb dL_law_112 rfl (lv_at hl 5 rfl) ?_
            obtain ⟨u40, e41, hf⟩ := bd_some hf
            refine xci (gRunS (rest := [.ref (E.2.1 0)]) (As := [.int (((cellF L xs (2 + x8)) : Int32) >>> ((4 : Int32) &&& 31)), .int x3]) (k := 2) C0 (c_L_low l E g a (((cellF L xs (2 + x8)) : Int32) >>> ((4 : Int32) &&& 31)) x3 e41) bw730 bw740 bw742 bw741 hd_L_low ⟨Nat.le_of_ble_eq_true rfl, Nat.le_of_ble_eq_true rfl⟩ hP (wX_D hD) hS rfl hl.1 rfl (Nat.le_of_ble_eq_true rfl) dL_law_113 ⟨show (200 + 5 * (x8 : Int32).toNatClampNeg) ≤ 623463 by omega, show (20000 + 30 * (x8 : Int32).toNatClampNeg) ≤ 7231235 by omega⟩) hS (fun H locs hP hS => ?_)
            refine lv_iload hx hb dL_law_116 (lv_at hl 1 rfl) ?_
            refine lv_bipush (v := 7) hx hb dL_law_118 (by decide) ?_
            refine lv_ishr hx hb dL_law_120 ?_
            refine lv_bipush (v := 9) hx hb dL_law_121 (by decide) ?_
            obtain ⟨u42, e43, hf⟩ := bd_some hf
            refine xci (gRunS (rest := [.int u40, .ref (E.2.1 0)]) (As := [.int (((cellF L xs (2 + x8)) : Int32) >>> ((7 : Int32) &&& 31)), .int 9]) (k := 2) C0 (c_L_low l E g a (((cellF L xs (2 + x8)) : Int32) >>> ((7 : Int32) &&& 31)) 9 e43) bw730 bw740 bw742 bw741 hd_L_low ⟨Nat.le_of_ble_eq_true rfl, Nat.le_of_ble_eq_true rfl⟩ hP (wX_D hD) hS rfl hl.1 rfl (Nat.le_of_ble_eq_true rfl) dL_law_123 ⟨show (200 + 5 * (x8 : Int32).toNatClampNeg) ≤ 623463 by omega, show (20000 + 30 * (x8 : Int32).toNatClampNeg) ≤ 7231235 by omega⟩) hS (fun H locs hP hS => ?_)
            refine lv_iload hx hb dL_law_126 (lv_at hl 1 rfl) ?_
            refine lv_bipush (v := 11) hx hb dL_law_128 (by decide) ?_
            refine lv_ishr hx hb dL_law_130 ?_
            refine lv_iconst (v := 4) hx hb dL_law_131 (by decide) ?_
            obtain ⟨u44, e45, hf⟩ := bd_some hf
            refine xci (gRunS (rest := [.int u42, .int u40, .ref (E.2.1 0)]) (As := [.int (((cellF L xs (2 + x8)) : Int32) >>> ((11 : Int32) &&& 31)), .int 4]) (k := 2) C0 (c_L_low l E g a (((cellF L xs (2 + x8)) : Int32) >>> ((11 : Int32) &&& 31)) 4 e45) bw730 bw740 bw742 bw741 hd_L_low ⟨Nat.le_of_ble_eq_true rfl, Nat.le_of_ble_eq_true rfl⟩ hP (wX_D hD) hS rfl hl.1 rfl (Nat.le_of_ble_eq_true rfl) dL_law_132 ⟨show (200 + 5 * (x8 : Int32).toNatClampNeg) ≤ 623463 by omega, show (20000 + 30 * (x8 : Int32).toNatClampNeg) ≤ 7231235 by omega⟩) hS (fun H locs hP hS => ?_)
            refine lv_if_le (tgt := 142) hx hb dL_law_135 (by decide) (fun c46 => ?_) (fun c46 => ?_)
            · replace hf := (if_pos c46).symm.trans hf
              refine lv_iconst (v := 0) hx hb dL_law_142 (by decide) ?_
              exact B143 (f_L_law_70 L xs n) ih g a x2 x3 x4 x5 x6 x7 x8 0 u42 u40 _ _ _ hP hS (lv_sub hl [2, 3, 4, 5, 6, 7, 8, 9, 10] rfl) hf
            · replace hf := (if_neg c46).symm.trans hf
              refine lv_iconst (v := 1) hx hb dL_law_138 (by decide) ?_
              refine lv_goto (tgt := 143) hx hb dL_law_139 (by decide) ?_
              exact B143 (f_L_law_70 L xs n) ih g a x2 x3 x4 x5 x6 x7 x8 1 u42 u40 _ _ _ hP hS (lv_sub hl [2, 3, 4, 5, 6, 7, 8, 9, 10] rfl) hf
  have B50 : ∀ (g : xG) (a : xA) (x2 : Int32) (x3 : Int32) (x4 : Int32) (x5 : Int32) (s0 : Int32) (H : Heap) (locs : List Loc) (ls : Array Slot), va_P E.1 vwCl (wX E g a) H → va_S (A0 s) s.heap H locs → lv_has ls 14 [(0, .ref b), (1, .ref (E.2.1 0)), (2, .int x2), (3, .int x3), (4, .int x4), (5, .int x5)] → f_L_law_50 L xs g a x2 x3 x4 x5 s0 = some res → W p l e room_1 s m #[Value.ref b] below meth c H locs 200 20000 (lw_Z below #[Value.ref b] s) (F0 m 50 ls [.int s0]) := by
    intro g a x2 x3 x4 x5 s0 H locs ls hP hS hl hf
    unfold f_L_law_50 at hf
    refine lv_istore (lv' := [(6, .int s0), (0, .ref b), (1, .ref (E.2.1 0)), (2, .int x2), (3, .int x3), (4, .int x4), (5, .int x5)]) hx hb dL_law_50 hl (by decide) rfl (fun ls hl => ?_)
    refine lv_bipush (v := 6) hx hb dL_law_52 (by decide) ?_
    refine lv_aload_n hx hb dL_law_54 rfl (lv_at hl 1 rfl) ?_
    refine lv_iconst (v := 1) hx hb dL_law_55 (by decide) ?_
    obtain ⟨k10, hf⟩ := ck_some hf
    refine gcell C0 hL hX hbl hbA k10 bw853 ⟨Nat.le_of_ble_eq_true rfl, Nat.le_of_ble_eq_true rfl⟩ hP hS hl.1 (Nat.le_of_ble_eq_true rfl) dL_law_56 ⟨show 200 ≤ 623463 by omega, show 20000 ≤ 7231235 by omega⟩ (fun H locs hP hS => ?_)
    refine lv_bipush (v := 30) hx hb dL_law_59 (by decide) ?_
    obtain ⟨u11, e12, hf⟩ := bd_some hf
    refine xci (gRunS (rest := [.int 6]) (As := [.int (cellF L xs 1), .int 30]) (k := 2) C0 (c_L_low l E g a (cellF L xs 1) 30 e12) bw730 bw740 bw742 bw741 hd_L_low ⟨Nat.le_of_ble_eq_true rfl, Nat.le_of_ble_eq_true rfl⟩ hP (wX_D hD) hS rfl hl.1 rfl (Nat.le_of_ble_eq_true rfl) dL_law_61 ⟨show 200 ≤ 623463 by omega, show 20000 ≤ 7231235 by omega⟩) hS (fun H locs hP hS => ?_)
    refine lv_iadd hx hb dL_law_64 ?_
    refine lv_istore (lv' := [(7, .int (6 + u11)), (6, .int s0), (0, .ref b), (1, .ref (E.2.1 0)), (2, .int x2), (3, .int x3), (4, .int x4), (5, .int x5)]) hx hb dL_law_65 hl (by decide) rfl (fun ls hl => ?_)
    refine lv_iconst (v := 0) hx hb dL_law_67 (by decide) ?_
    refine lv_istore (lv' := [(8, .int 0), (7, .int (6 + u11)), (6, .int s0), (0, .ref b), (1, .ref (E.2.1 0)), (2, .int x2), (3, .int x3), (4, .int x4), (5, .int x5)]) hx hb dL_law_68 hl (by decide) rfl (fun ls hl => ?_)
    refine W.widen (k := (200 + 5 * (0 : Int32).toNatClampNeg)) (n := (20000 + 30 * (0 : Int32).toNatClampNeg)) (by omega) (by omega) ?_
    exact B70 fu g a x2 x3 x4 x5 s0 (6 + u11) 0 _ _ _ hP hS (lv_sub hl [3, 4, 5, 6, 7, 8, 2, 1, 0] rfl) hf
  refine lv_iconst (v := 2) hx hb dL_law_8 (by decide) ?_
  refine lv_aload_n hx hb dL_law_9 rfl (lv_at hl 1 rfl) ?_
  refine lv_iconst (v := 0) hx hb dL_law_10 (by decide) ?_
  obtain ⟨k1, hf⟩ := ck_some hf
  refine gcell C0 hL hX hbl hbA k1 bw853 ⟨Nat.le_of_ble_eq_true rfl, Nat.le_of_ble_eq_true rfl⟩ hP hS hl.1 (Nat.le_of_ble_eq_true rfl) dL_law_11 ⟨show 200 ≤ 623463 by omega, show 20000 ≤ 7231235 by omega⟩ (fun H locs hP hS => ?_)
  refine lv_iconst (v := 2) hx hb dL_law_14 (by decide) ?_
  obtain ⟨u2, e3, hf⟩ := bd_some hf
  refine xci (gRunS (rest := [.int 2]) (As := [.int (cellF L xs 0), .int 2]) (k := 2) C0 (c_L_low l E g a (cellF L xs 0) 2 e3) bw730 bw740 bw742 bw741 hd_L_low ⟨Nat.le_of_ble_eq_true rfl, Nat.le_of_ble_eq_true rfl⟩ hP (wX_D hD) hS rfl hl.1 rfl (Nat.le_of_ble_eq_true rfl) dL_law_15 ⟨show 200 ≤ 623463 by omega, show 20000 ≤ 7231235 by omega⟩) hS (fun H locs hP hS => ?_)
  refine lv_iadd hx hb dL_law_18 ?_
  refine lv_istore_n (lv' := [(2, .int (2 + u2)), (1, .ref (E.2.1 0)), (0, .ref b)]) hx hb dL_law_19 rfl hl (by decide) rfl (fun ls hl => ?_)
  refine lv_iconst (v := 1) hx hb dL_law_20 (by decide) ?_
  refine lv_istore_n (lv' := [(3, .int 1), (2, .int (2 + u2)), (1, .ref (E.2.1 0)), (0, .ref b)]) hx hb dL_law_21 rfl hl (by decide) rfl (fun ls hl => ?_)
  refine lv_iconst (v := 0) hx hb dL_law_22 (by decide) ?_
  refine lv_istore (lv' := [(4, .int 0), (3, .int 1), (2, .int (2 + u2)), (1, .ref (E.2.1 0)), (0, .ref b)]) hx hb dL_law_23 hl (by decide) rfl (fun ls hl => ?_)
  refine lv_iconst (v := 1) hx hb dL_law_25 (by decide) ?_
  refine lv_istore (lv' := [(5, .int 1), (4, .int 0), (3, .int 1), (2, .int (2 + u2)), (1, .ref (E.2.1 0)), (0, .ref b)]) hx hb dL_law_26 hl (by decide) rfl (fun ls hl => ?_)
  refine lv_aload_n hx hb dL_law_28 rfl (lv_at hl 4 rfl) ?_
  refine lv_iload_n hx hb dL_law_29 rfl (lv_at hl 3 rfl) ?_
  obtain ⟨u4, e5, hf⟩ := bd_some hf
  refine xci (gRunV (rest := []) (As := [.int (2 + u2)]) (C := RX11) (k := 1) C0 (cr_X11_values l E g a (2 + u2) (rgt_some e5)) bw598 bw855 bw13 bw856 bw857 hd_X11_values ⟨Nat.le_of_ble_eq_true rfl, Nat.le_of_ble_eq_true rfl⟩ hP (wX_D hD) hS (va_recv hK hP (ci := 11) rfl (gx_0 E g a)) rfl hl.1 rfl (Nat.le_of_ble_eq_true rfl) dL_law_30 ⟨show 200 ≤ 623463 by omega, show 20000 ≤ 7231235 by omega⟩) hS (fun H locs hP hS => ?_)
  refine lv_iconst (v := 2) hx hb dL_law_33 (by decide) ?_
  refine lv_icmp_ne (tgt := 49) hx hb dL_law_34 (by decide) (fun c6 => ?_) (fun c6 => ?_)
  · replace hf := (if_neg c6).symm.trans hf
    refine lv_iconst (v := 0) hx hb dL_law_49 (by decide) ?_
    exact B50 u4.2.1 u4.2.2 (2 + u2) 1 0 1 0 _ _ _ hP hS (lv_sub hl [5, 4, 3, 2, 1, 0] rfl) hf
  · replace hf := (if_pos c6).symm.trans hf
    refine lv_aload_n hx hb dL_law_37 rfl (lv_at hl 4 rfl) ?_
    refine lv_iconst (v := 2) hx hb dL_law_38 (by decide) ?_
    obtain ⟨u7, e8, hf⟩ := bd_some hf
    refine xci (gRunV (rest := []) (As := [.int 2]) (C := RX11) (k := 1) C0 (cr_X11_relation l E u4.2.1 u4.2.2 2 (rgt_some e8)) bw599 bw736 bw13 bw737 bw738 hd_X11_relation ⟨Nat.le_of_ble_eq_true rfl, Nat.le_of_ble_eq_true rfl⟩ hP (wX_D hD) hS (va_recv hK hP (ci := 11) rfl (gx_0 E u4.2.1 u4.2.2)) rfl hl.1 rfl (Nat.le_of_ble_eq_true rfl) dL_law_39 ⟨show 200 ≤ 623463 by omega, show 20000 ≤ 7231235 by omega⟩) hS (fun H locs hP hS => ?_)
    refine lv_if_ne (tgt := 49) hx hb dL_law_42 (by decide) (fun c9 => ?_) (fun c9 => ?_)
    · replace hf := (if_neg c9).symm.trans hf
      refine lv_iconst (v := 0) hx hb dL_law_49 (by decide) ?_
      exact B50 u7.2.1 u7.2.2 (2 + u2) 1 0 1 0 _ _ _ hP hS (lv_sub hl [5, 4, 3, 2, 1, 0] rfl) hf
    · replace hf := (if_pos c9).symm.trans hf
      refine lv_iconst (v := 1) hx hb dL_law_45 (by decide) ?_
      refine lv_goto (tgt := 50) hx hb dL_law_46 (by decide) ?_
      exact B50 u7.2.1 u7.2.2 (2 + u2) 1 0 1 1 _ _ _ hP hS (lv_sub hl [5, 4, 3, 2, 1, 0] rfl) hf
