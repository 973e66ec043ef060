/-! THE CLAIM OUT OF ONE WALK OF THE LAW'S BODY. Your part is whole_start (and what it stands on); all else here is the same for every law, but numbers. -/
def R_law : String := "PolymorphiumLaw"
def lw_P (b : Addr) (xs : List Int32) (args : Array Value) (s : State) : Prop := args = #[.ref b] ∧ s.IntsAt b xs ∧ xs.length ≤ 2560 ∧ (Jvm.Cond.and given_1 narrow_1).before args s = true
def lw_Q (_ : Array Value) (s : State) (o : Outcome) (t : State) : Prop := o = .returned (some (.int 1)) ∧ Framed s o t [] 601024 7293033
def lw_Z (below : List Frame) (a : Array Value) (s : State) : State → Prop := fun t => ∃ o, t.status = .running ∧ Ended t below o ∧ lw_Q a s o t
/-- the law's own end, with 1 on the stack, nothing written that was there before, its room as the claim has it -/
theorem lw_ret {p : Program} {l : Launch} {e : Env} {s : State} {m : MethodId} {below : List Frame} {meth : Method} {c : Code} {b : Nat} (hx : p.tables.exec = Jvm.exec) (hb : c.code = code) (hr : meth.sig.returnType = ret) (hlocks : meth.locks = false) {pc : Nat} {H : Heap} {ls : Array Slot} (hdg : decode code pc = .ok (.ireturn, 1)) : W p l e room_1 s m #[Value.ref b] below meth c H [] 601024 7293033 (lw_Z below #[Value.ref b] s) (F0 m pc ls [.int 1]) := by
  intro T hT X
  obtain ⟨fs, hret, hrun, hended, hW, hframe⟩ := X.leave (v := some (.int 1)) (hlocks := hlocks) (fun h => by rw [hr] at h; cases h)
  have hmeth' : T.vm.method? m = some meth := X.method'
  refine ⟨T.setFrames fs, ?_, .returned (some (.int 1)), hrun, hended, rfl, ⟨_, rfl⟩, hW, hframe⟩
  jvm_step X.here [X.here.top, hx, hb, hdg, hmeth', hr, ret, narrow_b1]
  (try refine ⟨rfl, ?_⟩); (try refine ⟨rfl, ?_⟩)
  first | (intro acts; rw [hret _ acts rfl rfl rfl]) | rw [hret _ _ rfl rfl rfl]
  exact Steps.refl _
/-- what holds at the law's entry: the machine, the code, the tables' words (any of lw_tbl by 'hts w (by decide +kernel)'), the script of L ints xs at the cell b, what the Statement gives of the start (any of its parts by flat_of_before) -/
def lw_At (p : Program) (s : State) (m : MethodId) (meth : Method) (c : Code) (b L : Nat) (xs : Nat → Int32) : Prop :=
  p.tables.exec = Jvm.exec ∧ c.code = code ∧ meth.sig.returnType = ret ∧ c.maxLocals = 8 ∧ s.vm.findClass R_law = some m.cls ∧ (∀ w ∈ lw_tbl, w.before #[Value.ref b] s = true) ∧ va_X b L xs s s.heap ∧ b < s.heap.size ∧ meth.locks = false ∧ (Jvm.Cond.and given_1 narrow_1).before #[Value.ref b] s = true
def Obl (I : xG → xA → xG → xA → Prop) : Prop := ob_values I ∧ ob_relation I ∧ ob_tuple I ∧ ob_ofRelation I ∧ ob_operation I ∧ ob_make I ∧ ob_answers I ∧ ob_code I ∧ ob_keeps I ∧ ob_breaks I ∧ ob_has I ∧ ob_closed I ∧ ob_monoid I ∧ ob_binary I ∧ ob_kept I ∧ ob_first I ∧ ob_ends I ∧ ob_core I ∧ ob_around I ∧ ob_type I ∧ ob_wipe I ∧ ob_fault I ∧ ob_define I ∧ ob_instance I ∧ ob_constrain I ∧ ob_solutions I ∧ ob_solutionsAnew I ∧ ob_solve I ∧ ob_left I ∧ ob_pairs I ∧ ∃ res : xG × xA, f_X11_beginAnew g0X a0X 2 = some res ∧ I res.1 res.2 g0M a0M
set_option maxRecDepth 100000 in
set_option maxHeartbeats 40000000 in
theorem law_loop {p : Program} {l : Launch} {e : Env} {s : State} {m : MethodId} {below : List Frame} {meth : Method} {c : Code} {b L : Nat} {xs : Nat → Int32} {E : xE} (C0 : lwC p l s m c b L xs E) (hr : meth.sig.returnType = ret) (hlocks : meth.locks = false) (hL : L ≤ 2560) {I : xG → xA → xG → xA → Prop} (O : Obl I) {bo : Nat} {qm : Nat → Nat} (hD : ∀ (g : xG) (a : xA) (gm : xG) (am : xA) (fo : Nat → Int64), va_D (A0 s) (wL E qm g a bo fo gm am)) :
    ∀ (n i : Nat) (x4 : Int32), i ≤ L → L + 6 ≤ i + 5 * n → x4 = nI i → ∀ (g : xG) (a : xA) (gm : xG) (am : xA) (fo : Nat → Int64) (H : Heap) (locs : List Loc) (ls : Array Slot), I g a gm am → va_P E.1 vwCl (wL E qm g a bo fo gm am) H → va_S (A0 s) s.heap H locs → lv_has ls 8 [(0, .ref b), (1, .ref (E.2.1 0)), (2, .ref ((Eq_ E qm).2.1 0)), (3, .ref bo), (4, .int x4)] → W p l e room_1 s m #[Value.ref b] below meth c H locs (200 + 2 * i) (20000 + 54 * i) (lw_Z below #[Value.ref b] s) (F0 m 23 ls []) := by
  obtain ⟨hx, hb, hml, hown, hw, hK, hN, hT, hst, hz, hnc, hX, hbl, hstk⟩ := id C0
  have hbA : ¬ (A0 s) b := Nat.not_le.mpr hbl
  obtain ⟨o_values, o_relation, o_tuple, o_ofRelation, o_operation, o_make, o_answers, o_code, o_keeps, o_breaks, o_has, o_closed, o_monoid, o_binary, o_kept, o_first, o_ends, o_core, o_around, o_type, o_wipe, o_fault, o_define, o_instance, o_constrain, o_solutions, o_solutionsAnew, o_solve, o_left, o_pairs, -⟩ := O
  intro n
  induction n with
  | zero => intro i x4 h1 h2; exact absurd h2 (by omega)
  | succ n ih =>
    intro i x4 hi hin ex4 g a gm am fo H locs ls hI hP hS hl
    refine lv_iload hx hb dL_law_23 (lv_at hl 4 rfl) ?_
    refine lv_aload_n hx hb dL_law_25 rfl (lv_at hl 0 rfl) ?_
    refine va_slen hx hb hX hbl hbA hS dL_law_26 ?_
    refine lv_iconst (v := 5) hx hb dL_law_27 (by decide) ?_
    refine lv_isub hx hb dL_law_28 ?_
    refine lv_icmp_gt (tgt := 1725) hx hb dL_law_29 (by decide) (fun c1 => ?_) (fun c1 => ?_)
    · refine lv_iconst (v := 1) hx hb dL_law_1725 (by decide) ?_
      refine va_forget (fun q hq => hS.2.2 q hq) ?_
      refine W.widen (k := 601024) (n := 7293033) (by omega) (by omega) ?_
      exact lw_ret hx hb hr hlocks dL_law_1726
    · have hi5 : i + 5 ≤ L := law_in hL hi (by rw [← ex4]; exact c1)
      have hj0 : vp_in x4 L := by rw [ex4]; exact vp_in_nI (by omega) (by omega)
      have hk : ∀ (g : xG) (a : xA) (gm : xG) (am : xA) (fo : Nat → Int64) (H : Heap) (locs : List Loc) (ls : Array Slot), I g a gm am → va_P E.1 vwCl (wL E qm g a bo fo gm am) H → va_S (A0 s) s.heap H locs → lv_has ls 8 [(0, .ref b), (1, .ref (E.2.1 0)), (2, .ref ((Eq_ E qm).2.1 0)), (3, .ref bo), (4, .int x4)] → W p l e room_1 s m #[Value.ref b] below meth c H locs ((200 + 2 * i) + 2) ((20000 + 54 * i) + 54) (lw_Z below #[Value.ref b] s) (F0 m 1719 ls []) := by
        intro g a gm am fo H locs ls hI hP hS hl
        refine lv_iinc (v := x4 + 5) (lv' := [(4, .int (x4 + 5)), (0, .ref b), (1, .ref (E.2.1 0)), (2, .ref ((Eq_ E qm).2.1 0)), (3, .ref bo)]) hx hb dL_law_1719 hl (k := 4) rfl rfl (by decide) rfl (fun ls hl => ?_)
        refine lv_goto (tgt := 23) hx hb dL_law_1722 (by decide) ?_
        refine W.widen (k := 200 + 2 * (i + 5)) (n := 20000 + 54 * (i + 5)) (by omega) (by omega) ?_
        exact ih (i + 5) (x4 + 5) hi5 (by omega) (by rw [ex4]; exact nI_add i 5) g a gm am fo H locs ls hI hP hS (lv_sub hl [1, 2, 3, 4, 0] rfl)
      refine lv_aload_n hx hb dL_law_32 rfl (lv_at hl 0 rfl) ?_
      refine lv_iload hx hb dL_law_33 (lv_at hl 4 rfl) ?_
      refine va_sld hx hb hX hbl hbA hS hj0 dL_law_35 ?_
      refine lv_bipush (v := 31) hx hb dL_law_36 (by decide) ?_
      refine lv_iand hx hb dL_law_38 ?_
      refine lv_topi (fun y ey => ?_)
      by_cases c_0 : y = 0
      · refine lv_tableIn (tgt := 172) (off := 133) hx hb dL_law_39 (by rw [c_0]; decide) (by rw [c_0]; decide) (by rw [c_0]; rfl) (by decide) ?_
        exact lc_values C0 o_values hI ex4 hi5 hL (by omega) (by omega) hP (hD g a gm am fo) hS hl hk
      by_cases c_1 : y = 1
      · refine lv_tableIn (tgt := 228) (off := 189) hx hb dL_law_39 (by rw [c_1]; decide) (by rw [c_1]; decide) (by rw [c_1]; rfl) (by decide) ?_
        exact lc_relation C0 o_relation hI ex4 hi5 hL (by omega) (by omega) hP (hD g a gm am fo) hS hl hk
      by_cases c_2 : y = 2
      · refine lv_tableIn (tgt := 284) (off := 245) hx hb dL_law_39 (by rw [c_2]; decide) (by rw [c_2]; decide) (by rw [c_2]; rfl) (by decide) ?_
        exact lc_tuple C0 o_tuple hI ex4 hi5 hL (by omega) (by omega) hP (hD g a gm am fo) hS hl hk
      by_cases c_3 : y = 3
      · refine lv_tableIn (tgt := 387) (off := 348) hx hb dL_law_39 (by rw [c_3]; decide) (by rw [c_3]; decide) (by rw [c_3]; rfl) (by decide) ?_
        exact lc_ofRelation C0 o_ofRelation hI ex4 hi5 hL (by omega) (by omega) hP (hD g a gm am fo) hS hl hk
      by_cases c_4 : y = 4
      · refine lv_tableIn (tgt := 455) (off := 416) hx hb dL_law_39 (by rw [c_4]; decide) (by rw [c_4]; decide) (by rw [c_4]; rfl) (by decide) ?_
        exact lc_operation C0 o_operation hI ex4 hi5 hL (by omega) (by omega) hP (hD g a gm am fo) hS hl hk
      by_cases c_5 : y = 5
      · refine lv_tableIn (tgt := 511) (off := 472) hx hb dL_law_39 (by rw [c_5]; decide) (by rw [c_5]; decide) (by rw [c_5]; rfl) (by decide) ?_
        exact lc_make C0 o_make hI ex4 hi5 hL (by omega) (by omega) hP (hD g a gm am fo) hS hl hk
      by_cases c_6 : y = 6
      · refine lv_tableIn (tgt := 567) (off := 528) hx hb dL_law_39 (by rw [c_6]; decide) (by rw [c_6]; decide) (by rw [c_6]; rfl) (by decide) ?_
        exact lc_answers C0 o_answers hI ex4 hi5 hL (by omega) (by omega) hP (hD g a gm am fo) hS hl hk
      by_cases c_7 : y = 7
      · refine lv_tableIn (tgt := 647) (off := 608) hx hb dL_law_39 (by rw [c_7]; decide) (by rw [c_7]; decide) (by rw [c_7]; rfl) (by decide) ?_
        exact lc_code C0 o_code hI ex4 hi5 hL (by omega) (by omega) hP (hD g a gm am fo) hS hl hk
      by_cases c_8 : y = 8
      · refine lv_tableIn (tgt := 702) (off := 663) hx hb dL_law_39 (by rw [c_8]; decide) (by rw [c_8]; decide) (by rw [c_8]; rfl) (by decide) ?_
        exact lc_keeps C0 o_keeps hI ex4 hi5 hL (by omega) (by omega) hP (hD g a gm am fo) hS hl hk
      by_cases c_9 : y = 9
      · refine lv_tableIn (tgt := 777) (off := 738) hx hb dL_law_39 (by rw [c_9]; decide) (by rw [c_9]; decide) (by rw [c_9]; rfl) (by decide) ?_
        exact lc_breaks C0 o_breaks hI ex4 hi5 hL (by omega) (by omega) hP (hD g a gm am fo) hS hl hk
      by_cases c_10 : y = 10
      · refine lv_tableIn (tgt := 845) (off := 806) hx hb dL_law_39 (by rw [c_10]; decide) (by rw [c_10]; decide) (by rw [c_10]; rfl) (by decide) ?_
        exact lc_has C0 o_has hI ex4 hi5 hL (by omega) (by omega) hP (hD g a gm am fo) hS hl hk
      by_cases c_11 : y = 11
      · refine lv_tableIn (tgt := 920) (off := 881) hx hb dL_law_39 (by rw [c_11]; decide) (by rw [c_11]; decide) (by rw [c_11]; rfl) (by decide) ?_
        exact lc_closed C0 o_closed hI ex4 hi5 hL (by omega) (by omega) hP (hD g a gm am fo) hS hl hk
      by_cases c_12 : y = 12
      · refine lv_tableIn (tgt := 988) (off := 949) hx hb dL_law_39 (by rw [c_12]; decide) (by rw [c_12]; decide) (by rw [c_12]; rfl) (by decide) ?_
        exact lc_monoid C0 o_monoid hI ex4 hi5 hL (by omega) (by omega) hP (hD g a gm am fo) hS hl hk
      by_cases c_13 : y = 13
      · refine lv_tableIn (tgt := 1001) (off := 962) hx hb dL_law_39 (by rw [c_13]; decide) (by rw [c_13]; decide) (by rw [c_13]; rfl) (by decide) ?_
        exact lc_binary C0 o_binary hI ex4 hi5 hL (by omega) (by omega) hP (hD g a gm am fo) hS hl hk
      by_cases c_14 : y = 14
      · refine lv_tableIn (tgt := 1045) (off := 1006) hx hb dL_law_39 (by rw [c_14]; decide) (by rw [c_14]; decide) (by rw [c_14]; rfl) (by decide) ?_
        exact lc_kept C0 o_kept hI ex4 hi5 hL (by omega) (by omega) hP (hD g a gm am fo) hS hl hk
      by_cases c_15 : y = 15
      · refine lv_tableIn (tgt := 1101) (off := 1062) hx hb dL_law_39 (by rw [c_15]; decide) (by rw [c_15]; decide) (by rw [c_15]; rfl) (by decide) ?_
        exact lc_first C0 o_first hI ex4 hi5 hL (by omega) (by omega) hP (hD g a gm am fo) hS hl hk
      by_cases c_16 : y = 16
      · refine lv_tableIn (tgt := 1156) (off := 1117) hx hb dL_law_39 (by rw [c_16]; decide) (by rw [c_16]; decide) (by rw [c_16]; rfl) (by decide) ?_
        exact lc_ends C0 o_ends hI ex4 hi5 hL (by omega) (by omega) hP (hD g a gm am fo) hS hl hk
      by_cases c_17 : y = 17
      · refine lv_tableIn (tgt := 1169) (off := 1130) hx hb dL_law_39 (by rw [c_17]; decide) (by rw [c_17]; decide) (by rw [c_17]; rfl) (by decide) ?_
        exact lc_core C0 o_core hI ex4 hi5 hL (by omega) (by omega) hP (hD g a gm am fo) hS hl hk
      by_cases c_18 : y = 18
      · refine lv_tableIn (tgt := 1182) (off := 1143) hx hb dL_law_39 (by rw [c_18]; decide) (by rw [c_18]; decide) (by rw [c_18]; rfl) (by decide) ?_
        exact lc_around C0 o_around hI ex4 hi5 hL (by omega) (by omega) hP (hD g a gm am fo) hS hl hk
      by_cases c_19 : y = 19
      · refine lv_tableIn (tgt := 1238) (off := 1199) hx hb dL_law_39 (by rw [c_19]; decide) (by rw [c_19]; decide) (by rw [c_19]; rfl) (by decide) ?_
        exact lc_type C0 o_type hI ex4 hi5 hL (by omega) (by omega) hP (hD g a gm am fo) hS hl hk
      by_cases c_20 : y = 20
      · refine lv_tableIn (tgt := 1338) (off := 1299) hx hb dL_law_39 (by rw [c_20]; decide) (by rw [c_20]; decide) (by rw [c_20]; rfl) (by decide) ?_
        exact lc_wipe C0 o_wipe hI ex4 hi5 hL (by omega) (by omega) hP (hD g a gm am fo) hS hl hk
      by_cases c_21 : y = 21
      · refine lv_tableIn (tgt := 1351) (off := 1312) hx hb dL_law_39 (by rw [c_21]; decide) (by rw [c_21]; decide) (by rw [c_21]; rfl) (by decide) ?_
        exact lc_fault C0 o_fault hI ex4 hi5 hL (by omega) (by omega) hP (hD g a gm am fo) hS hl hk
      by_cases c_22 : y = 22
      · refine lv_tableIn (tgt := 1364) (off := 1325) hx hb dL_law_39 (by rw [c_22]; decide) (by rw [c_22]; decide) (by rw [c_22]; rfl) (by decide) ?_
        exact lc_define C0 o_define hI ex4 hi5 hL (by omega) (by omega) hP (hD g a gm am fo) hS hl hk
      by_cases c_23 : y = 23
      · refine lv_tableIn (tgt := 1408) (off := 1369) hx hb dL_law_39 (by rw [c_23]; decide) (by rw [c_23]; decide) (by rw [c_23]; rfl) (by decide) ?_
        exact lc_instance C0 o_instance hI ex4 hi5 hL (by omega) (by omega) hP (hD g a gm am fo) hS hl hk
      by_cases c_24 : y = 24
      · refine lv_tableIn (tgt := 1464) (off := 1425) hx hb dL_law_39 (by rw [c_24]; decide) (by rw [c_24]; decide) (by rw [c_24]; rfl) (by decide) ?_
        exact lc_constrain C0 o_constrain hI ex4 hi5 hL (by omega) (by omega) hP (hD g a gm am fo) hS hl hk
      by_cases c_25 : y = 25
      · refine lv_tableIn (tgt := 1556) (off := 1517) hx hb dL_law_39 (by rw [c_25]; decide) (by rw [c_25]; decide) (by rw [c_25]; rfl) (by decide) ?_
        exact lc_solutions C0 o_solutions hI ex4 hi5 hL (by omega) (by omega) hP (hD g a gm am fo) hS hl hk
      by_cases c_26 : y = 26
      · refine lv_tableIn (tgt := 1569) (off := 1530) hx hb dL_law_39 (by rw [c_26]; decide) (by rw [c_26]; decide) (by rw [c_26]; rfl) (by decide) ?_
        exact lc_solutionsAnew C0 o_solutionsAnew hI ex4 hi5 hL (by omega) (by omega) hP (hD g a gm am fo) hS hl hk
      by_cases c_27 : y = 27
      · refine lv_tableIn (tgt := 1582) (off := 1543) hx hb dL_law_39 (by rw [c_27]; decide) (by rw [c_27]; decide) (by rw [c_27]; rfl) (by decide) ?_
        exact lc_solve C0 o_solve hI ex4 hi5 hL (by omega) (by omega) hP (hD g a gm am fo) hS hl hk
      by_cases c_28 : y = 28
      · refine lv_tableIn (tgt := 1595) (off := 1556) hx hb dL_law_39 (by rw [c_28]; decide) (by rw [c_28]; decide) (by rw [c_28]; rfl) (by decide) ?_
        exact lc_left C0 o_left hI ex4 hi5 hL (by omega) (by omega) hP (hD g a gm am fo) hS hl hk
      by_cases c_29 : y = 29
      · refine lv_tableIn (tgt := 1651) (off := 1612) hx hb dL_law_39 (by rw [c_29]; decide) (by rw [c_29]; decide) (by rw [c_29]; rfl) (by decide) ?_
        exact lc_pairs C0 o_pairs hI ex4 hi5 hL (by omega) (by omega) hP (hD g a gm am fo) hS hl hk
      refine lv_tableOut (tgt := 1719) hx hb dL_law_39 (by have h9 := tsw0 (x := y) 30 (by decide) (by intro i hi; match i, hi with | 0, _ => exact c_0 | 1, _ => exact c_1 | 2, _ => exact c_2 | 3, _ => exact c_3 | 4, _ => exact c_4 | 5, _ => exact c_5 | 6, _ => exact c_6 | 7, _ => exact c_7 | 8, _ => exact c_8 | 9, _ => exact c_9 | 10, _ => exact c_10 | 11, _ => exact c_11 | 12, _ => exact c_12 | 13, _ => exact c_13 | 14, _ => exact c_14 | 15, _ => exact c_15 | 16, _ => exact c_16 | 17, _ => exact c_17 | 18, _ => exact c_18 | 19, _ => exact c_19 | 20, _ => exact c_20 | 21, _ => exact c_21 | 22, _ => exact c_22 | 23, _ => exact c_23 | 24, _ => exact c_24 | 25, _ => exact c_25 | 26, _ => exact c_26 | 27, _ => exact c_27 | 28, _ => exact c_28 | 29, _ => exact c_29 | i + 30, h => exact absurd h (by omega)); omega) (by decide) ?_
      exact W.widen (k := (200 + 2 * i) + 2) (n := (20000 + 54 * i) + 54) (by omega) (by omega) (hk g a gm am fo H locs ls hI hP hS hl)
theorem th_stk {l : Launch} (h : l.flags = flags0) : l.stackTraces = false := by rw [Launch.stackTraces, h]; decide +kernel
theorem D_perm {A : Nat → Prop} {x y z : va_W} (h : va_D A (x ++ (y ++ z))) : va_D A (x ++ (z ++ y)) := by
  have key : ∀ (k : Nat) (q : Nat × va_E), (x ++ (z ++ y))[k]? = some q → (x ++ (y ++ z))[if k < x.length then k else if k < x.length + z.length then k + y.length else k - z.length]? = some q := by
    intro k q hk
    by_cases hl : k < x.length
    · rw [if_pos hl, List.getElem?_append_left hl]
      rw [List.getElem?_append_left hl] at hk
      exact hk
    · rw [if_neg hl]
      rw [List.getElem?_append_right (by omega)] at hk
      by_cases hm : k < x.length + z.length
      · rw [if_pos hm, List.getElem?_append_right (by omega), List.getElem?_append_right (by omega)]
        rw [List.getElem?_append_left (by omega)] at hk
        rw [show k + y.length - x.length - y.length = k - x.length by omega]
        exact hk
      · rw [if_neg hm, List.getElem?_append_right (by omega)]
        rw [List.getElem?_append_right (by omega)] at hk
        have hlt := (List.getElem?_eq_some_iff.mp hk).1
        rw [List.getElem?_append_left (by omega)]
        rw [show k - z.length - x.length = k - x.length - z.length by omega]
        exact hk
  refine ⟨fun i j p q hi hj e => ?_, fun k q hk => h.2 _ q (key k q hk)⟩
  have h7 := h.1 _ _ p q (key i p hi) (key j q hj) e
  have li := (List.getElem?_eq_some_iff.mp hi).1
  have lj := (List.getElem?_eq_some_iff.mp hj).1
  simp only [List.length_append] at li lj
  split at h7 <;> split at h7 <;> (try split at h7) <;> (try split at h7) <;> omega
theorem ar_of {s : State} {args : Array Value} {ty : FieldType} (h : (Cond.arrayClass ty).before args s = true) (hp : ∀ C, ty ≠ .object C) : ∃ cA : ClassId, ArrOfT s cA ty ∧ va_RA s cA ty := by
  obtain ⟨cA, kA, comp, h1, h2, h3⟩ := Cond.arrayClass_spec h
  refine ⟨cA, fun n z => ⟨fun k h => (by cases h), kA, h2, comp, h3⟩, ?_⟩
  cases ty with
  | object C => exact absurd rfl (hp C)
  | _ => exact h1
set_option maxRecDepth 100000 in
set_option maxHeartbeats 40000000 in
theorem start_of {I : xG → xA → xG → xA → Prop} (O : Obl I) {p : Program} {e : Env} {s : State} {m : MethodId} {below : List Frame} {meth : Method} {c : Code} (l : Launch) (hflags : l.flags = flags0) {b L : Nat} {xs : Nat → Int32} (hL : L ≤ 2560) (C1 : lw_At p s m meth c b L xs) : W p l e room_1 s m #[Value.ref b] below meth c s.heap [] 0 0 (lw_Z below #[Value.ref b] s) (entryFrame m ([Value.ref b] : List Value).toArray 8) := by
  obtain ⟨hx, hb, hr, hml, hown, hts, hX, hbl, hlocks, hgv⟩ := id C1
  have hstk : l.stackTraces = false := th_stk hflags
  have hfl := flat_of_before _ hgv
  have hw : ∀ w ∈ BW, w.before #[Value.ref b] s = true := fun w h => hts w (BW_tbl w h)
  have hA : ∀ q : Nat, s.heap.size ≤ q → A0 s q := fun _ h => h
  have hN : nwP s := fun w h => va_Nw.of (by obtain ⟨a, i, x, k, rfl⟩ := NWl_is w h; rfl) (hts w (NW_tbl w h))
  have hT : thP s := fun w h => va_Nw.of (THl_face w h).2 (hts w (TH_tbl w h))
  have hst : stP s := fun q h => by
    have h1 := hts _ (ST_tbl q h)
    have h2 := hfl _ (ST_flat q h)
    obtain ⟨a, ha⟩ : ∃ a, (Term.string RX11 q.1).eval #[Value.ref b] s none [] s = some (.ref a) := by
      obtain ⟨a, _, _, _, h9, -⟩ := Cond.exactly_spec h2
      exact ⟨a, h9⟩
    exact ⟨a, vk_R.of (A := #[Value.ref b]) h1 ha⟩
  have hz : zP (A0 s) s s.heap := ⟨vx_Zqof (hts _ U_2) (hts _ U_3) (hfl _ U_1) (fun a h => Nat.not_le.mpr h), vx_Zqof (hts _ U_5) (hts _ U_3) (hfl _ U_4) (fun a h => Nat.not_le.mpr h)⟩
  have hnc : ncP s := by
    intro a b ha ha3 hb hb3 hab
    match a, b, ha, ha3, hb, hb3, hab with
    | 1, 2, _, _, _, _, _ => exact va_Nc.of (hfl _ nc_12)
    | 1, 3, _, _, _, _, _ => exact va_Nc.of (hfl _ nc_13)
    | 2, 1, _, _, _, _, _ => exact va_Nc.of (hfl _ nc_21)
    | 2, 3, _, _, _, _, _ => exact va_Nc.of (hfl _ nc_23)
    | 3, 1, _, _, _, _, _ => exact va_Nc.of (hfl _ nc_31)
    | 3, 2, _, _, _, _, _ => exact va_Nc.of (hfl _ nc_32)
    | 1, 1, _, _, _, _, h => exact absurd rfl h
    | 2, 2, _, _, _, _, h => exact absurd rfl h
    | 3, 3, _, _, _, _, h => exact absurd rfl h
  have hO : va_AO "Polymorphium$Operation" s := va_AO.of (A := #[Value.ref b]) (hts _ O_tbl)
  obtain ⟨c0, i0, k0⟩ := u_known (C := RX0) (T := TX0) (N := 5) (n := 5) hw bfX00 (hw (.instantiable RX0 5) bw564)
  obtain ⟨c1, i1, k1⟩ := u_known (C := RX1) (T := TX1) (N := 9) (n := 9) hw bfX10 (hw (.instantiable RX1 9) bw575)
  obtain ⟨c2, i2, k2⟩ := u_known (C := RX2) (T := TX2) (N := 10) (n := 10) hw bfX20 (hw (.instantiable RX2 10) bw85)
  obtain ⟨c3, i3, k3⟩ := u_known (C := RX3) (T := TX3) (N := 5) (n := 5) hw bfX30 (hw (.instantiable RX3 5) bw569)
  obtain ⟨c4, i4, k4⟩ := u_known (C := RX4) (T := TX4) (N := 3) (n := 3) hw bfX40 (hw (.instantiable RX4 3) bw560)
  obtain ⟨c5, i5, k5⟩ := u_known (C := RX5) (T := TX5) (N := 3) (n := 3) hw bfX50 (hw (.instantiable RX5 3) bw266)
  obtain ⟨c6, i6, k6⟩ := u_known (C := RX6) (T := TX6) (N := 5) (n := 5) hw bfX60 (hw (.instantiable RX6 5) bw567)
  obtain ⟨c7, i7, k7⟩ := u_known (C := RX7) (T := TX7) (N := 3) (n := 3) hw bfX70 (hw (.instantiable RX7 3) bw579)
  obtain ⟨c8, i8, k8⟩ := u_known (C := RX8) (T := TX8) (N := 8) (n := 8) hw bfX80 (hw (.instantiable RX8 8) bw262)
  obtain ⟨c9, i9, k9⟩ := u_known (C := RX9) (T := TX9) (N := 2) (n := 2) hw bfX90 (hw (.instantiable RX9 2) bw572)
  obtain ⟨c10, i10, k10⟩ := u_known (C := RX10) (T := TX10) (N := 4) (n := 4) hw bfX100 (hw (.instantiable RX10 4) bw562)
  obtain ⟨c11, i11, k11⟩ := u_known (C := RX11) (T := TX11) (N := 9) (n := 9) hw bfX110 (hw (.instantiable RX11 9) bw1092)
  obtain ⟨c12, i12, k12⟩ := u_known (C := RX12) (T := TX12) (N := 22) (n := 22) hw bfX120 (hw (.instantiable RX12 22) bw1094)
  obtain ⟨dC, dI, hKc⟩ : ∃ (dC : Nat → ClassId) (dI : Nat → Nat → Nat), ∀ (k : Nat) (q : vw_C), vwCl[k]? = some q → u_Kn s q.1 q.2.1 q.2.2 (dC k) (dI k) := by
    refine ⟨fun k => if k = 0 then c0 else if k = 1 then c1 else if k = 2 then c2 else if k = 3 then c3 else if k = 4 then c4 else if k = 5 then c5 else if k = 6 then c6 else if k = 7 then c7 else if k = 8 then c8 else if k = 9 then c9 else if k = 10 then c10 else if k = 11 then c11 else c12, fun k => if k = 0 then i0 else if k = 1 then i1 else if k = 2 then i2 else if k = 3 then i3 else if k = 4 then i4 else if k = 5 then i5 else if k = 6 then i6 else if k = 7 then i7 else if k = 8 then i8 else if k = 9 then i9 else if k = 10 then i10 else if k = 11 then i11 else i12, ?_⟩
    intro k q hq
    match k, hq with
    | 0, hq => cases hq; exact k0
    | 1, hq => cases hq; exact k1
    | 2, hq => cases hq; exact k2
    | 3, hq => cases hq; exact k3
    | 4, hq => cases hq; exact k4
    | 5, hq => cases hq; exact k5
    | 6, hq => cases hq; exact k6
    | 7, hq => cases hq; exact k7
    | 8, hq => cases hq; exact k8
    | 9, hq => cases hq; exact k9
    | 10, hq => cases hq; exact k10
    | 11, hq => cases hq; exact k11
    | 12, hq => cases hq; exact k12
    | k + 13, hq => simp [vwCl] at hq
  obtain ⟨y0, ya0, yb0⟩ := ar_of (ty := .int) (hw _ bw4) (fun _ h => by cases h)
  obtain ⟨y1, ya1, yb1⟩ := ar_of (ty := .char) (hw _ bw533) (fun _ h => by cases h)
  obtain ⟨y3, ya3, yb3⟩ := ar_of (ty := .long) (hw _ bw1095) (fun _ h => by cases h)
  obtain ⟨cp, y2, kA, z1, z2, z3, z4, z5⟩ := Cond.arrayOver_spec (hts _ O_tbl)
  obtain ⟨E, hE⟩ : ∃ E : xE, E = ((dC, dI), (fun _ => 0), (fun i => if i = 0 then y0 else if i = 1 then y1 else if i = 2 then y2 else y3)) := ⟨_, rfl⟩
  have hK : va_K E.1 vwCl (tyX E) s := by
    subst hE
    refine ⟨hKc, fun k q hk => ?_⟩
    match k, hk with
    | 0, hk => cases hk; exact ⟨ya0, yb0⟩
    | 1, hk => cases hk; exact ⟨ya1, yb1⟩
    | 2, hk => cases hk; exact ⟨fun n z => ⟨(fun k h => by cases h), kA, z3, cp, z4⟩, kA, cp, z3, z4, z1, z5⟩
    | 3, hk => cases hk; exact ⟨ya3, yb3⟩
    | k + 4, hk => simp [tyX] at hk
  clear hE
  have hS : va_S (A0 s) s.heap s.heap [] := va_S.rf
  have hP : va_P E.1 vwCl [] s.heap := fun k q h => by simp at h
  have hD : va_D (A0 s) [] := ⟨fun i j p q h => by simp at h, fun k q h => by simp at h⟩
  have hl := lv_entry ([.ref b]) (n := 8) (Nat.le_of_ble_eq_true rfl)
  rw [lg_entry_eq]
  generalize (lg_sl ([.ref b]) ++ List.replicate (8 - (lg_sl ([.ref b])).length) Slot.unset).toArray = ls at hl ⊢
  have hl : lv_has ls 8 [(0, .ref b)] := hl
  obtain ⟨r0, hr0, hI0⟩ : ∃ res : xG × xA, f_X11_beginAnew g0X a0X 2 = some res ∧ I res.1 res.2 g0M a0M := by
    unfold Obl at O
    obtain ⟨-, -, -, -, -, -, -, -, -, -, -, -, -, -, -, -, -, -, -, -, -, -, -, -, -, -, -, -, -, -, h⟩ := O
    exact h
  have C9 : xCtx E p m c code 8 s #[Value.ref b] RL (A0 s) yX11_at cX11_at 2 (some .int) := ⟨hx, hb, hml, hown, (fun w h => by
    rcases List.mem_cons.mp h with rfl | h
    · exact hw _ bw9
    · exact hw _ h), hA, hK, hN⟩
  refine W.widen (k := 0) (n := 0) (Nat.le_refl _) (Nat.le_refl _) ?_
  refine va_new (ci := 11) (fs := [.null, .null, .null, .null, .null, .null, .null, .null, .null]) (C := RX11) (T := TX11) (N := 9) hx hb hw bfX110 tyX11 tyX11_ok hown (hw _ bw1091) (hw _ bw1092) (hw _ bw13) hK hP hD hS hA rfl (fun j hj => by match j, hj with | 0, _ => rfl | 1, _ => rfl | 2, _ => rfl | 3, _ => rfl | 4, _ => rfl | 5, _ => rfl | 6, _ => rfl | 7, _ => rfl | 8, _ => rfl | j + 9, h => exact absurd h (by omega)) (by show _ ≤ 601024; decide) (by show _ ≤ 7293033; decide) dL_law_0 (fun h0 H hP hD hS => ?_)
  have hP : va_P E.1 vwCl [(h0, .inr (11, [.null, .null, .null, .null, .null, .null, .null, .null, .null]))] H := hP
  have hD : va_D (A0 s) [(h0, .inr (11, [.null, .null, .null, .null, .null, .null, .null, .null, .null]))] := hD
  refine lv_dup hx hb dL_law_3 rfl ?_
  refine xcI (As := []) (rest := [.ref h0]) (k := 0) (wr := []) (wc := [(h0, .inr (11, [.null, .null, .null, .null, .null, .null, .null, .null, .null]))]) C9 hO (c_X11_init l E h0 hr0) bw599 bw1097 bw13 bw1098 rfl hd_X11_init ⟨Nat.le_of_ble_eq_true rfl, Nat.le_of_ble_eq_true rfl⟩ hP hD hS [0] [] rfl rfl (by decide) (by decide) (by decide) rfl hl.1 rfl (Nat.le_of_ble_eq_true rfl) dL_law_4 ⟨by show _ ≤ 601024; decide, by show _ ≤ 7293033; decide⟩ (fun w1 hw1 H1 locs1 hPn hDn hSn => ?_)
  clear hP hD hS
  obtain ⟨qx, hqx, rfl⟩ := hw1
  subst hqx
  have hP := hPn
  have hD := hDn
  have hS := hSn
  clear hPn hDn hSn
  refine lv_astore_n (lv' := [(1, .ref (qx 0)), (0, .ref b)]) hx hb dL_law_7 rfl hl (by decide) rfl (fun ls hl => ?_)
  obtain ⟨E1, hE1⟩ : ∃ E1 : xE, E1 = (E.1, qx, E.2.2) := ⟨_, rfl⟩
  have hP : va_P E1.1 vwCl (wX E1 r0.1 r0.2) H1 := by subst hE1; exact hP
  have hD : va_D (A0 s) (wX E1 r0.1 r0.2) := by subst hE1; exact hD
  have hl : lv_has ls 8 [(1, .ref (E1.2.1 0)), (0, .ref b)] := by subst hE1; exact hl
  have hK : va_K E1.1 vwCl (tyX E1) s := by subst hE1; exact hK
  have C9 : xCtx E1 p m c code 8 s #[Value.ref b] RL (A0 s) yX11_at cX11_at 2 (some .int) := by subst hE1; exact C9
  clear hE1
  refine va_new (ci := 12) (fs := [.int 0, .int 0, .null, .null, .int 0, .null, .null, .int 0, .null, .int 0, .null, .int 0, .null, .null, .int 0, .int 0, .null, .null, .null, .null, .null, .int 0]) (C := RX12) (T := TX12) (N := 22) hx hb hw bfX120 tyX12 tyX12_ok hown (hw _ bw1093) (hw _ bw1094) (hw _ bw778) hK hP hD hS hA rfl (fun j hj => by match j, hj with | 0, _ => rfl | 1, _ => rfl | 2, _ => rfl | 3, _ => rfl | 4, _ => rfl | 5, _ => rfl | 6, _ => rfl | 7, _ => rfl | 8, _ => rfl | 9, _ => rfl | 10, _ => rfl | 11, _ => rfl | 12, _ => rfl | 13, _ => rfl | 14, _ => rfl | 15, _ => rfl | 16, _ => rfl | 17, _ => rfl | 18, _ => rfl | 19, _ => rfl | 20, _ => rfl | 21, _ => rfl | j + 22, h => exact absurd h (by omega)) (by show _ ≤ 601024; decide) (by show _ ≤ 7293033; decide) dL_law_8 (fun m0 H hP hD hS => ?_)
  refine lv_dup hx hb dL_law_11 rfl ?_
  have e54 : (wX E1 r0.1 r0.2).length = 54 := rfl
  refine xcI (As := []) (rest := [.ref m0]) (k := 0) (wr := wX E1 r0.1 r0.2) (wc := [(m0, .inr (12, [.int 0, .int 0, .null, .null, .int 0, .null, .null, .int 0, .null, .int 0, .null, .int 0, .null, .null, .int 0, .int 0, .null, .null, .null, .null, .null, .int 0]))]) C9 hO (c_X12_init l E1 m0) bw753 bw1099 bw778 bw1100 rfl hd_X12_init ⟨Nat.le_of_ble_eq_true rfl, Nat.le_of_ble_eq_true rfl⟩ hP hD hS [54] (List.range 54) rfl rfl (by decide) (by decide +kernel) (by decide +kernel) rfl hl.1 rfl (Nat.le_of_ble_eq_true rfl) dL_law_12 ⟨by show _ ≤ 601024; decide, by show _ ≤ 7293033; decide⟩ (fun w1 hw1 H2 locs2 hPn hDn hSn => ?_)
  clear hP hD hS
  obtain ⟨qm, hqm, rfl⟩ := hw1
  subst hqm
  have hP := hPn
  have hD := hDn
  have hS := hSn
  clear hPn hDn hSn
  refine lv_astore_n (lv' := [(2, .ref (qm 0)), (1, .ref (E1.2.1 0)), (0, .ref b)]) hx hb dL_law_15 rfl hl (by decide) rfl (fun ls hl => ?_)
  refine lv_iconst (v := 1) hx hb dL_law_16 (by decide) ?_
  refine va_newa (atype := .long) (n := 1) (N' := 1) (a0 := (1, .inr (.inl (fun _ => 0)))) hx hb (hw _ bw1095) rfl hK hP hD hS hA (fun cA => rfl) (by decide) rfl (Nat.le_of_ble_eq_true rfl) (by show _ ≤ 601024; decide) (by show _ ≤ 7293033; decide) dL_law_17 (fun bo cA H hK1 hP hD hS => ?_)
  have e9 : cA = E1.2.2 3 := by
    have h1 : s.vm.findClass _ = some cA := (hK1.2 4 _ rfl).2
    have h2 : s.vm.findClass _ = some (E1.2.2 3) := (hK.2 3 _ rfl).2
    exact Option.some.inj (h1.symm.trans h2)
  subst e9
  refine lv_astore_n (lv' := [(3, .ref bo), (2, .ref (qm 0)), (1, .ref (E1.2.1 0)), (0, .ref b)]) hx hb dL_law_19 rfl hl (by decide) rfl (fun ls hl => ?_)
  refine lv_iconst (v := 0) hx hb dL_law_20 (by decide) ?_
  refine lv_istore (lv' := [(4, .int 0), (3, .ref bo), (2, .ref (qm 0)), (1, .ref (E1.2.1 0)), (0, .ref b)]) hx hb dL_law_21 hl (by decide) rfl (fun ls hl => ?_)
  have hP2 : va_P E1.1 vwCl (wL E1 qm r0.1 r0.2 bo (fun _ => 0) g0M a0M) H := by
    have h1 := frP0 hP
    have h2 := frP1 hP
    exact ((frP0 h1).app h2).app (frP1 h1)
  have hD2 : ∀ (g : xG) (a : xA) (gm : xG) (am : xA) (fo : Nat → Int64), va_D (A0 s) (wL E1 qm g a bo fo gm am) := by
    intro g a gm am fo
    have h1 : va_D (A0 s) (wX E1 r0.1 r0.2 ++ (wM (Eq_ E1 qm) g0M a0M ++ oC E1 bo (fun _ => 0))) := by rw [← List.append_assoc]; exact hD
    have h2 := D_perm h1
    rw [← List.append_assoc] at h2
    exact h2.eqv rfl
  have CC : lwC p l s m c b L xs E1 := ⟨hx, hb, hml, hown, hw, hK, hN, hT, hst, hz, hnc, hX, hbl, hstk⟩
  refine W.widen (k := 200 + 2 * 0) (n := 20000 + 54 * 0) (by decide) (by decide) ?_
  exact law_loop CC hr hlocks hL O hD2 (L + 2) 0 0 (Nat.zero_le _) (by omega) nI_0.symm r0.1 r0.2 g0M a0M (fun _ => 0) H _ ls hI0 hP2 hS (lv_sub hl [4, 3, 2, 1, 0] rfl)
