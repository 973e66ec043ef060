/-! the model's monoid: two arrays of its own -/
abbrev Eq_ (E : xE) (qf : Nat → Nat) : xE := (E.1, qf, E.2.2)
abbrev wNr (E : xE) (a : xA) : va_W := [(E.2.1 14, .inl (E.2.2 0, (27, .inl (a 14)))), (E.2.1 15, .inl (E.2.2 0, (27, .inl (a 15))))]
abbrev wN (E : xE) (g : xG) (a : xA) : va_W := wM E g a ++ wNr E a
theorem wN_D {A : Nat → Prop} {E : xE} {g g' : xG} {a a' : xA} (h : va_D A (wN E g a)) : va_D A (wN E g' a') := h.eqv rfl
theorem gn_0 (E : xE) (g : xG) (a : xA) : (wN E g a)[0]? = (wM E g a)[0]? := rfl
theorem gn_1 (E : xE) (g : xG) (a : xA) : (wN E g a)[1]? = (wM E g a)[1]? := rfl
theorem gn_2 (E : xE) (g : xG) (a : xA) : (wN E g a)[2]? = (wM E g a)[2]? := rfl
theorem gn_3 (E : xE) (g : xG) (a : xA) : (wN E g a)[3]? = (wM E g a)[3]? := rfl
theorem gn_4 (E : xE) (g : xG) (a : xA) : (wN E g a)[4]? = (wM E g a)[4]? := rfl
theorem gn_5 (E : xE) (g : xG) (a : xA) : (wN E g a)[5]? = (wM E g a)[5]? := rfl
theorem gn_6 (E : xE) (g : xG) (a : xA) : (wN E g a)[6]? = (wM E g a)[6]? := rfl
theorem gn_7 (E : xE) (g : xG) (a : xA) : (wN E g a)[7]? = (wM E g a)[7]? := rfl
theorem gn_8 (E : xE) (g : xG) (a : xA) : (wN E g a)[8]? = (wM E g a)[8]? := rfl
theorem gn_9 (E : xE) (g : xG) (a : xA) : (wN E g a)[9]? = (wM E g a)[9]? := rfl
theorem gn_10 (E : xE) (g : xG) (a : xA) : (wN E g a)[10]? = (wM E g a)[10]? := rfl
theorem gn_11 (E : xE) (g : xG) (a : xA) : (wN E g a)[11]? = (wM E g a)[11]? := rfl
theorem gn_12 (E : xE) (g : xG) (a : xA) : (wN E g a)[12]? = (wM E g a)[12]? := rfl
theorem gn_13 (E : xE) (g : xG) (a : xA) : (wN E g a)[13]? = (wM E g a)[13]? := rfl
theorem gn_14 (E : xE) (g : xG) (a : xA) : (wN E g a)[14]? = some (E.2.1 14, .inl (E.2.2 0, (27, .inl (a 14)))) := rfl
theorem sn_a14 (E : xE) (g : xG) (a : xA) (f : Nat → Int32) : (wN E g a).set 14 (E.2.1 14, .inl (E.2.2 0, (27, .inl f))) = wN E g (upA a 14 f) := rfl
theorem gn_15 (E : xE) (g : xG) (a : xA) : (wN E g a)[15]? = some (E.2.1 15, .inl (E.2.2 0, (27, .inl (a 15)))) := rfl
theorem sn_a15 (E : xE) (g : xG) (a : xA) (f : Nat → Int32) : (wN E g a).set 15 (E.2.1 15, .inl (E.2.2 0, (27, .inl f))) = wN E g (upA a 15 f) := rfl
theorem xn_ret {p : Program} {l : Launch} {e : Env} {R : Room} {s : State} {m : MethodId} {args : Array Value} {below : List Frame} {meth : Method} {c : Code} {H : Heap} {locs : List Loc} {cc : ByteArray} {pc : Nat} {ls : Array Slot} {E : xE} {A : Nat → Prop} {qf : Nat → Nat} {g : xG} {v : Int32} {a : xA} {res : Int32 × xA} (hx : p.tables.exec = Jvm.exec) (hb : c.code = cc) (hr : meth.sig.returnType = some .int) (hlocks : meth.locks = false) (he : (v, a) = res) (hW : ∀ g a, wM (Eq_ E qf) g a = wM E g a) (hP : va_P E.1 vwCl (wN (Eq_ E qf) g a) H) (hS : va_S A s.heap H locs) (hdg : decode cc pc = .ok (.ireturn, 1)) : W p l e R s m args below meth c H locs 2 54 (MQ below (xQi E res.1 (wM E g res.2) A) args s 2 54 A) (F0 m pc ls [.int v]) := by
  subst he
  have hP1 : va_P E.1 vwCl (wM E g a) H := by
    rw [← hW]
    exact frP0 hP
  exact W.iret (v := v) hx hb hr (fun t ht _ => ⟨⟨v, (), rfl, rfl, by show va_P E.1 vwCl (wM E g a) t.heap; rw [ht]; exact hP1⟩, hS.F ht⟩) hS.2.2 hdg
def f_X12_monoid_114 (g : xG) (K84 : xA → Int32 → Int32 → Option (Int32 × xA)) (K94 : xA → Int32 → Int32 → Int32 → Option (Int32 × xA)) : Nat → xA → Int32 → Int32 → Int32 → Int32 → Int32 → Option (Int32 × xA)
  | 0, _, _, _, _, _, _ => none
  | n + 1, a, x5, x6, x7, x8, x9 => (if x9 < 0 then ck (inB x7 6) ((if (a 3 (x7 : Int32).toNatClampNeg) = 1 then ck (inB x8 27) ((if (a 14 (x8 : Int32).toNatClampNeg) = 0 then ck (inB x8 27) (ck (inB x5 27) (K94 (upA (upA a 14 (upd (a 14) (x8 : Int32).toNatClampNeg 1)) 15 (upd ((upA a 14 (upd (a 14) (x8 : Int32).toNatClampNeg 1)) 15) (x5 : Int32).toNatClampNeg x8)) (x5 + 1) x6 (x7 + 1))) else K94 a x5 x6 (x7 + 1))) else K94 a x5 x6 (x7 + 1))) else ck (inB x6 27) (Option.bind (f_X12_on g a (a 15 (x6 : Int32).toNatClampNeg) x9) (fun u15 => ck (inB ((27 * x7) + u15) 189) (f_X12_monoid_114 g K84 K94 n a x5 x6 x7 ((x8 * (g 0)) + (a 4 (((27 * x7) + u15) : Int32).toNatClampNeg)) (x9 + (-1))))))
theorem e_X12_monoid_114 (g : xG) (K84 : xA → Int32 → Int32 → Option (Int32 × xA)) (K94 : xA → Int32 → Int32 → Int32 → Option (Int32 × xA)) (n : Nat) (a : xA) (x5 : Int32) (x6 : Int32) (x7 : Int32) (x8 : Int32) (x9 : Int32) : f_X12_monoid_114 g K84 K94 (n + 1) a x5 x6 x7 x8 x9 = (if x9 < 0 then ck (inB x7 6) ((if (a 3 (x7 : Int32).toNatClampNeg) = 1 then ck (inB x8 27) ((if (a 14 (x8 : Int32).toNatClampNeg) = 0 then ck (inB x8 27) (ck (inB x5 27) (K94 (upA (upA a 14 (upd (a 14) (x8 : Int32).toNatClampNeg 1)) 15 (upd ((upA a 14 (upd (a 14) (x8 : Int32).toNatClampNeg 1)) 15) (x5 : Int32).toNatClampNeg x8)) (x5 + 1) x6 (x7 + 1))) else K94 a x5 x6 (x7 + 1))) else K94 a x5 x6 (x7 + 1))) else ck (inB x6 27) (Option.bind (f_X12_on g a (a 15 (x6 : Int32).toNatClampNeg) x9) (fun u15 => ck (inB ((27 * x7) + u15) 189) (f_X12_monoid_114 g K84 K94 n a x5 x6 x7 ((x8 * (g 0)) + (a 4 (((27 * x7) + u15) : Int32).toNatClampNeg)) (x9 + (-1)))))) := rfl
def f_X12_monoid_94 (g : xG) (K84 : xA → Int32 → Int32 → Option (Int32 × xA)) : Nat → xA → Int32 → Int32 → Int32 → Option (Int32 × xA)
  | 0, _, _, _, _ => none
  | n + 1, a, x5, x6, x7 => (if (g 2) ≤ x7 then K84 a x5 (x6 + 1) else f_X12_monoid_114 g K84 (f_X12_monoid_94 g K84 n) fu a x5 x6 x7 0 ((g 0) - 1))
theorem e_X12_monoid_94 (g : xG) (K84 : xA → Int32 → Int32 → Option (Int32 × xA)) (n : Nat) (a : xA) (x5 : Int32) (x6 : Int32) (x7 : Int32) : f_X12_monoid_94 g K84 (n + 1) a x5 x6 x7 = (if (g 2) ≤ x7 then K84 a x5 (x6 + 1) else f_X12_monoid_114 g K84 (f_X12_monoid_94 g K84 n) fu a x5 x6 x7 0 ((g 0) - 1)) := rfl
def f_X12_monoid_84 (g : xG) : Nat → xA → Int32 → Int32 → Option (Int32 × xA)
  | 0, _, _, _ => none
  | n + 1, a, x5, x6 => (if x5 ≤ x6 then some (x5, a) else f_X12_monoid_94 g (f_X12_monoid_84 g n) fu a x5 x6 0)
theorem e_X12_monoid_84 (g : xG) (n : Nat) (a : xA) (x5 : Int32) (x6 : Int32) : f_X12_monoid_84 g (n + 1) a x5 x6 = (if x5 ≤ x6 then some (x5, a) else f_X12_monoid_94 g (f_X12_monoid_84 g n) fu a x5 x6 0) := rfl
def f_X12_monoid_69 (g : xG) (a : xA) (x4 : Int32) (s0 : Int32) : Option (Int32 × xA) := ck (inB 0 27) (ck (inB x4 27) (f_X12_monoid_84 g fu (upA (upA a 15 (upd (a 15) (0 : Int32).toNatClampNeg x4)) 14 (upd ((upA a 15 (upd (a 15) (0 : Int32).toNatClampNeg x4)) 14) (x4 : Int32).toNatClampNeg 1)) s0 0))
def f_X12_monoid_35 (g : xG) : Nat → xA → Int32 → Int32 → Int32 → Option (Int32 × xA)
  | 0, _, _, _, _ => none
  | n + 1, a, x1, x4, x5 => (if x5 < 0 then (if x1 ≤ x4 then f_X12_monoid_69 g a x4 0 else f_X12_monoid_69 g a x4 1) else f_X12_monoid_35 g n a x1 ((x4 * (g 0)) + x5) (x5 + (-1)))
theorem e_X12_monoid_35 (g : xG) (n : Nat) (a : xA) (x1 : Int32) (x4 : Int32) (x5 : Int32) : f_X12_monoid_35 g (n + 1) a x1 x4 x5 = (if x5 < 0 then (if x1 ≤ x4 then f_X12_monoid_69 g a x4 0 else f_X12_monoid_69 g a x4 1) else f_X12_monoid_35 g n a x1 ((x4 * (g 0)) + x5) (x5 + (-1))) := rfl
def f_X12_monoid_24 (g : xG) (a : xA) (v1 : Int32) : Option (Int32 × xA) := f_X12_monoid_35 g fu a v1 0 ((g 0) - 1)
def f_X12_monoid (g : xG) (a : xA) : Option (Int32 × xA) := Option.bind (f_X12_power (upd g 8 0) a ((upd g 8 0) 0)) (fun u1 => f_X12_monoid_24 (upd g 8 0) (upA (upA a 14 (fun _ => 0)) 15 (fun _ => 0)) u1)
set_option maxRecDepth 100000 in
set_option maxHeartbeats 40000000 in
theorem c_X12_monoid (l : Launch) (E : xE) (g : xG) (a : xA) {res : Int32 × xA} (hf : f_X12_monoid g a = some res) : ∀ (sz : Nat) (A : Nat → Prop), (∀ q, sz ≤ q → A q) → va_D A (wM E g a) → Met l yX12_monoid (.code yX12_monoid cX12_monoid 10 (some .int) :: BW) ({ frames := 2, cells := 2, slots := 54, locals := 45 }) (xPc E [.ref (E.2.1 0)] (wM E g a) sz) (xQi E res.1 (wM E (upd g 8 0) res.2) A) 2 54 A := by
  intro sz A hA hD
  refine Met.ofW (cc := cX12_monoid) (maxL := 10) (ret := some .int) (by decide) rfl ?_
  intro p e s m args below meth c s₁ B hml hv
  obtain ⟨rfl, hsz, hP, hK, hN⟩ := hv
  subst hsz
  have hl := lv_entry ([.ref (E.2.1 0)]) (n := 10) (Nat.le_of_ble_eq_true rfl)
  rw [lg_entry_eq]
  generalize (lg_sl ([.ref (E.2.1 0)]) ++ List.replicate (10 - (lg_sl ([.ref (E.2.1 0)])).length) Slot.unset).toArray = ls at hl ⊢
  have hl : lv_has ls 10 [(0, .ref (E.2.1 0))] := hl
  have hx := B.exec
  have hb := B.bytes
  have hr := B.returns
  have hts := atoms_spec (ws := Cond.code yX12_monoid cX12_monoid 10 (some .int) :: BW) B.pre
  have hown : s.vm.findClass RX12 = some m.cls := findClass_of_methodNamed B.named
  have hlocks := B.notSynchronized
  have hw : ∀ w ∈ BW, w.before _ s = true := fun w h => hts w (List.mem_cons_of_mem _ h)
  have hS : va_S A s.heap s.heap [] := va_S.rf
  have C0 : xCtx E p m c cX12_monoid 10 s _ RX12 A yX12_monoid cX12_monoid 10 (some .int) := ⟨hx, hb, hml, hown, hts, hA, hK, hN⟩
  unfold f_X12_monoid at hf
  obtain ⟨u1, e1, hf⟩ := bd_some hf
  refine lv_aload_n hx hb dX12_monoid_0 rfl (lv_at hl 0 rfl) ?_
  refine lv_iconst (v := 0) hx hb dX12_monoid_1 (by decide) ?_
  refine va_put (v := .int 0) (ty := .int) (C := RX12) (T := TX12) (N := 22) hx hb hw bfX120 tyX12 tyX12_ok nmX12 hown hK hP (wM_D hD) hS 0 (gm_0 E g a) rfl 21 (by decide) (hw _ bw771) (fun _ h9 => h9) rfl (by decide +kernel) rfl rfl (Nat.le_of_ble_eq_true rfl) dX12_monoid_2 (fun H locs hP _ hS => ?_)
  have hP := xP_eq (sm_g8 E g a 0) hP
  refine lv_aload_n hx hb dX12_monoid_5 rfl (lv_at hl 0 rfl) ?_
  refine lv_aload_n hx hb dX12_monoid_6 rfl (lv_at hl 0 rfl) ?_
  refine va_get (C := RX12) (T := TX12) (N := 22) hx hb hw bfX120 hown hK hP 0 (gm_0 E (upd g 8 0) a) rfl 0 (by decide) (hw _ bw755) (fun _ h9 => h9) rfl dX12_monoid_7 ?_
  refine xci (xRunV (rest := []) (As := [.int ((upd g 8 0) 0)]) (C := RX12) (k := 1) C0 (c_X12_power l E (upd g 8 0) a ((upd g 8 0) 0) e1) bw773 bw775 bw778 bw776 bw777 hd_X12_power ⟨Nat.le_of_ble_eq_true rfl, Nat.le_of_ble_eq_true rfl⟩ hP (wM_D hD) hS (va_recv hK hP (ci := 12) rfl (gm_0 E (upd g 8 0) a)) rfl hl.1 rfl (Nat.le_of_ble_eq_true rfl) dX12_monoid_10 ⟨Nat.zero_le _, Nat.zero_le _⟩) hS (fun H locs hP hS => ?_)
  refine lv_istore_n (lv' := [(1, .int u1), (0, .ref (E.2.1 0))]) hx hb dX12_monoid_13 rfl hl (by decide) rfl (fun ls hl => ?_)
  refine lv_bipush (v := 27) hx hb dX12_monoid_14 (by decide) ?_
  refine x_newi (N' := 27) hx hb (hw _ bw4) hK hP (wM_D hD) hS hA (by decide) rfl (Nat.le_of_ble_eq_true rfl) (by decide) (by decide) dX12_monoid_16 (fun q1 H hP hD hS => ?_)
  refine lv_astore_n (lv' := [(2, .ref q1), (1, .int u1), (0, .ref (E.2.1 0))]) hx hb dX12_monoid_18 rfl hl (by decide) rfl (fun ls hl => ?_)
  refine lv_bipush (v := 27) hx hb dX12_monoid_19 (by decide) ?_
  refine x_newi (N' := 27) hx hb (hw _ bw4) hK hP hD hS hA (by decide) rfl (Nat.le_of_ble_eq_true rfl) (by decide) (by decide) dX12_monoid_21 (fun q2 H hP hD hS => ?_)
  refine lv_astore_n (lv' := [(3, .ref q2), (2, .ref q1), (1, .int u1), (0, .ref (E.2.1 0))]) hx hb dX12_monoid_23 rfl hl (by decide) rfl (fun ls hl => ?_)
  obtain ⟨qf, hqf⟩ : ∃ qf : Nat → Nat, qf = (fun i => if i = 14 then q1 else if i = 15 then q2 else E.2.1 i) := ⟨_, rfl⟩
  have hW : ∀ g a, wM (Eq_ E qf) g a = wM E g a := by intro g a; subst hqf; rfl
  have hP : va_P E.1 vwCl (wN (Eq_ E qf) (upd g 8 0) (upA (upA a 14 (fun _ => 0)) 15 (fun _ => 0))) H := by subst hqf; exact hP
  have hD : va_D A (wN (Eq_ E qf) (upd g 8 0) (upA (upA a 14 (fun _ => 0)) 15 (fun _ => 0))) := by subst hqf; exact hD
  have hl : lv_has ls 10 [(3, .ref ((Eq_ E qf).2.1 15)), (2, .ref ((Eq_ E qf).2.1 14)), (1, .int u1), (0, .ref ((Eq_ E qf).2.1 0))] := by subst hqf; exact hl
  have C0 : xCtx (Eq_ E qf) p m c cX12_monoid 10 s _ RX12 A yX12_monoid cX12_monoid 10 (some .int) := ⟨hx, hb, hml, hown, hts, hA, hK, hN⟩
  generalize upA (upA a 14 (fun _ => 0)) 15 (fun _ => 0) = a at hP hD hf
  refine W.widen (k := 2) (n := 54) (by decide) (by decide) ?_
  generalize upd g 8 0 = g at hP hD hf ⊢
  have B114 : ∀ (K84 : xA → Int32 → Int32 → Option (Int32 × xA)) (hK84 : ∀ (a : xA) (x5 : Int32) (x6 : Int32) (H : Heap) (locs : List Loc) (ls : Array Slot), va_P (Eq_ E qf).1 vwCl (wN (Eq_ E qf) g a) H → va_S A s.heap H locs → lv_has ls 10 [(0, .ref ((Eq_ E qf).2.1 0)), (2, .ref ((Eq_ E qf).2.1 14)), (3, .ref ((Eq_ E qf).2.1 15)), (5, .int x5), (6, .int x6)] → K84 a x5 x6 = some res → W p l e ({ frames := 2, cells := 2, slots := 54, locals := 45 }) s m ([.ref (E.2.1 0)] : List Value).toArray below meth c H locs 2 54 (MQ below (xQi E res.1 (wM E g res.2) A) ([.ref (E.2.1 0)] : List Value).toArray s 2 54 A) (F0 m 84 ls [])) (K94 : xA → Int32 → Int32 → Int32 → Option (Int32 × xA)) (hK94 : ∀ (a : xA) (x5 : Int32) (x6 : Int32) (x7 : Int32) (H : Heap) (locs : List Loc) (ls : Array Slot), va_P (Eq_ E qf).1 vwCl (wN (Eq_ E qf) g a) H → va_S A s.heap H locs → lv_has ls 10 [(0, .ref ((Eq_ E qf).2.1 0)), (2, .ref ((Eq_ E qf).2.1 14)), (3, .ref ((Eq_ E qf).2.1 15)), (5, .int x5), (6, .int x6), (7, .int x7)] → K94 a x5 x6 x7 = some res → W p l e ({ frames := 2, cells := 2, slots := 54, locals := 45 }) s m ([.ref (E.2.1 0)] : List Value).toArray below meth c H locs 2 54 (MQ below (xQi E res.1 (wM E g res.2) A) ([.ref (E.2.1 0)] : List Value).toArray s 2 54 A) (F0 m 94 ls [])) (n : Nat) (a : xA) (x5 : Int32) (x6 : Int32) (x7 : Int32) (x8 : Int32) (x9 : Int32) (H : Heap) (locs : List Loc) (ls : Array Slot), va_P (Eq_ E qf).1 vwCl (wN (Eq_ E qf) g a) H → va_S A s.heap H locs → lv_has ls 10 [(0, .ref ((Eq_ E qf).2.1 0)), (2, .ref ((Eq_ E qf).2.1 14)), (3, .ref ((Eq_ E qf).2.1 15)), (5, .int x5), (6, .int x6), (7, .int x7), (8, .int x8), (9, .int x9)] → f_X12_monoid_114 g K84 K94 n a x5 x6 x7 x8 x9 = some res → W p l e ({ frames := 2, cells := 2, slots := 54, locals := 45 }) s m ([.ref (E.2.1 0)] : List Value).toArray below meth c H locs 2 54 (MQ below (xQi E res.1 (wM E g res.2) A) ([.ref (E.2.1 0)] : List Value).toArray s 2 54 A) (F0 m 114 ls []) := by
    intro K84 hK84 K94 hK94 n
    induction n with
    | zero => intro a x5 x6 x7 x8 x9 H locs ls hP hS hl hf; exact absurd (show (none : Option (Int32 × xA)) = some res from hf) (by intro h; cases h)
    | succ n ih =>
      intro a x5 x6 x7 x8 x9 H locs ls hP hS hl hf
      replace hf := (e_X12_monoid_114 g K84 K94 n a x5 x6 x7 x8 x9).symm.trans hf
      refine lv_iload hx hb dX12_monoid_114 (lv_at hl 7 rfl) ?_
      refine lv_if_lt (tgt := 156) hx hb dX12_monoid_116 (by decide) (fun c7 => ?_) (fun c7 => ?_)
      · replace hf := (if_pos c7).symm.trans hf
        refine lv_aload_n hx hb dX12_monoid_156 rfl (lv_at hl 0 rfl) ?_
        refine va_get (C := RX12) (T := TX12) (N := 22) hx hb hw bfX120 hown hK hP 0 (gm_0 (Eq_ E qf) g a) rfl 5 (by decide) (hw _ bw758) (fun _ h9 => h9) rfl dX12_monoid_157 ?_
        refine lv_iload hx hb dX12_monoid_160 (lv_at hl 5 rfl) ?_
        obtain ⟨k8, hf⟩ := ck_some hf
        refine va_iald hx hb hK hP 3 0 (gn_3 (Eq_ E qf) g a) rfl (inB_in k8) dX12_monoid_162 ?_
        refine lv_iconst (v := 1) hx hb dX12_monoid_163 (by decide) ?_
        refine lv_icmp_ne (tgt := 188) hx hb dX12_monoid_164 (by decide) (fun c9 => ?_) (fun c9 => ?_)
        · replace hf := (if_neg c9).symm.trans hf
          refine lv_iinc (v := (x7 + 1)) (lv' := [(7, .int (x7 + 1)), (0, .ref ((Eq_ E qf).2.1 0)), (2, .ref ((Eq_ E qf).2.1 14)), (3, .ref ((Eq_ E qf).2.1 15)), (5, .int x5), (6, .int x6), (8, .int x8), (9, .int x9)]) hx hb dX12_monoid_188 hl (k := 5) rfl rfl (by decide) rfl (fun ls hl => ?_)
          refine lv_goto (tgt := 94) hx hb dX12_monoid_191 (by decide) ?_
          exact hK94 a x5 x6 (x7 + 1) _ _ _ hP hS (lv_sub hl [1, 2, 3, 4, 5, 0] rfl) hf
        · replace hf := (if_pos c9).symm.trans hf
          refine lv_aload_n hx hb dX12_monoid_167 rfl (lv_at hl 1 rfl) ?_
          refine lv_iload hx hb dX12_monoid_168 (lv_at hl 6 rfl) ?_
          obtain ⟨k10, hf⟩ := ck_some hf
          refine va_iald hx hb hK hP 14 0 (gn_14 (Eq_ E qf) g a) rfl (inB_in k10) dX12_monoid_170 ?_
          refine lv_if_ne (tgt := 188) hx hb dX12_monoid_171 (by decide) (fun c11 => ?_) (fun c11 => ?_)
          · replace hf := (if_neg c11).symm.trans hf
            refine lv_iinc (v := (x7 + 1)) (lv' := [(7, .int (x7 + 1)), (0, .ref ((Eq_ E qf).2.1 0)), (2, .ref ((Eq_ E qf).2.1 14)), (3, .ref ((Eq_ E qf).2.1 15)), (5, .int x5), (6, .int x6), (8, .int x8), (9, .int x9)]) hx hb dX12_monoid_188 hl (k := 5) rfl rfl (by decide) rfl (fun ls hl => ?_)
            refine lv_goto (tgt := 94) hx hb dX12_monoid_191 (by decide) ?_
            exact hK94 a x5 x6 (x7 + 1) _ _ _ hP hS (lv_sub hl [1, 2, 3, 4, 5, 0] rfl) hf
          · replace hf := (if_pos c11).symm.trans hf
            refine lv_aload_n hx hb dX12_monoid_174 rfl (lv_at hl 1 rfl) ?_
            refine lv_iload hx hb dX12_monoid_175 (lv_at hl 6 rfl) ?_
            refine lv_iconst (v := 1) hx hb dX12_monoid_177 (by decide) ?_
            obtain ⟨k12, hf⟩ := ck_some hf
            refine va_iast hx hb hK hP (wN_D hD) hS 14 0 (gn_14 (Eq_ E qf) g a) rfl (inB_in k12) dX12_monoid_178 (fun H locs hP _ hS => ?_)
            have hP := xP_eq (sn_a14 (Eq_ E qf) g a (upd (a 14) (x8 : Int32).toNatClampNeg 1)) hP
            refine lv_aload_n hx hb dX12_monoid_179 rfl (lv_at hl 2 rfl) ?_
            refine lv_iload hx hb dX12_monoid_180 (lv_at hl 3 rfl) ?_
            refine lv_iload hx hb dX12_monoid_182 (lv_at hl 6 rfl) ?_
            obtain ⟨k13, hf⟩ := ck_some hf
            refine va_iast hx hb hK hP (wN_D hD) hS 15 0 (gn_15 (Eq_ E qf) g (upA a 14 (upd (a 14) (x8 : Int32).toNatClampNeg 1))) rfl (inB_in k13) dX12_monoid_184 (fun H locs hP _ hS => ?_)
            have hP := xP_eq (sn_a15 (Eq_ E qf) g (upA a 14 (upd (a 14) (x8 : Int32).toNatClampNeg 1)) (upd ((upA a 14 (upd (a 14) (x8 : Int32).toNatClampNeg 1)) 15) (x5 : Int32).toNatClampNeg x8)) hP
            refine lv_iinc (v := (x5 + 1)) (lv' := [(5, .int (x5 + 1)), (0, .ref ((Eq_ E qf).2.1 0)), (2, .ref ((Eq_ E qf).2.1 14)), (3, .ref ((Eq_ E qf).2.1 15)), (6, .int x6), (7, .int x7), (8, .int x8), (9, .int x9)]) hx hb dX12_monoid_185 hl (k := 3) rfl rfl (by decide) rfl (fun ls hl => ?_)
            refine lv_iinc (v := (x7 + 1)) (lv' := [(7, .int (x7 + 1)), (5, .int (x5 + 1)), (0, .ref ((Eq_ E qf).2.1 0)), (2, .ref ((Eq_ E qf).2.1 14)), (3, .ref ((Eq_ E qf).2.1 15)), (6, .int x6), (8, .int x8), (9, .int x9)]) hx hb dX12_monoid_188 hl (k := 5) rfl rfl (by decide) rfl (fun ls hl => ?_)
            refine lv_goto (tgt := 94) hx hb dX12_monoid_191 (by decide) ?_
            exact hK94 (upA (upA a 14 (upd (a 14) (x8 : Int32).toNatClampNeg 1)) 15 (upd ((upA a 14 (upd (a 14) (x8 : Int32).toNatClampNeg 1)) 15) (x5 : Int32).toNatClampNeg x8)) (x5 + 1) x6 (x7 + 1) _ _ _ hP hS (lv_sub hl [2, 3, 4, 1, 5, 0] rfl) hf
      · replace hf := (if_neg c7).symm.trans hf
        refine lv_iload hx hb dX12_monoid_119 (lv_at hl 6 rfl) ?_
        refine lv_aload_n hx hb dX12_monoid_121 rfl (lv_at hl 0 rfl) ?_
        refine va_get (C := RX12) (T := TX12) (N := 22) hx hb hw bfX120 hown hK hP 0 (gm_0 (Eq_ E qf) g a) rfl 0 (by decide) (hw _ bw755) (fun _ h9 => h9) rfl dX12_monoid_122 ?_
        refine lv_imul hx hb dX12_monoid_125 ?_
        refine lv_aload_n hx hb dX12_monoid_126 rfl (lv_at hl 0 rfl) ?_
        refine va_get (C := RX12) (T := TX12) (N := 22) hx hb hw bfX120 hown hK hP 0 (gm_0 (Eq_ E qf) g a) rfl 6 (by decide) (hw _ bw759) (fun _ h9 => h9) rfl dX12_monoid_127 ?_
        refine lv_bipush (v := 27) hx hb dX12_monoid_130 (by decide) ?_
        refine lv_iload hx hb dX12_monoid_132 (lv_at hl 5 rfl) ?_
        refine lv_imul hx hb dX12_monoid_134 ?_
        refine lv_aload_n hx hb dX12_monoid_135 rfl (lv_at hl 0 rfl) ?_
        refine lv_aload_n hx hb dX12_monoid_136 rfl (lv_at hl 2 rfl) ?_
        refine lv_iload hx hb dX12_monoid_137 (lv_at hl 4 rfl) ?_
        obtain ⟨k14, hf⟩ := ck_some hf
        refine va_iald hx hb hK hP 15 0 (gn_15 (Eq_ E qf) g a) rfl (inB_in k14) dX12_monoid_139 ?_
        refine lv_iload hx hb dX12_monoid_140 (lv_at hl 7 rfl) ?_
        obtain ⟨u15, e16, hf⟩ := bd_some hf
        refine xciF (xRunVF (wr := wNr (Eq_ E qf) a) (rest := [.int (27 * x7), .ref ((Eq_ E qf).2.1 4), .int (x8 * (g 0))]) (As := [.int (a 15 (x6 : Int32).toNatClampNeg), .int x9]) (C := RX12) (k := 2) C0 (c_X12_on l (Eq_ E qf) g a (a 15 (x6 : Int32).toNatClampNeg) x9 e16) bw774 bw823 bw778 bw824 bw825 hd_X12_on ⟨Nat.le_of_ble_eq_true rfl, Nat.le_of_ble_eq_true rfl⟩ hP (wN_D hD) hS (va_recv hK (frP0 hP) (ci := 12) rfl (gm_0 (Eq_ E qf) g a)) rfl hl.1 rfl (Nat.le_of_ble_eq_true rfl) dX12_monoid_142 ⟨Nat.le_refl _, Nat.le_refl _⟩) hP hS (fun H locs hP hS => ?_)
        refine lv_iadd hx hb dX12_monoid_145 ?_
        obtain ⟨k17, hf⟩ := ck_some hf
        refine va_iald hx hb hK hP 4 0 (gn_4 (Eq_ E qf) g a) rfl (inB_in k17) dX12_monoid_146 ?_
        refine lv_iadd hx hb dX12_monoid_147 ?_
        refine lv_istore (lv' := [(8, .int ((x8 * (g 0)) + (a 4 (((27 * x7) + u15) : Int32).toNatClampNeg))), (0, .ref ((Eq_ E qf).2.1 0)), (2, .ref ((Eq_ E qf).2.1 14)), (3, .ref ((Eq_ E qf).2.1 15)), (5, .int x5), (6, .int x6), (7, .int x7), (9, .int x9)]) hx hb dX12_monoid_148 hl (by decide) rfl (fun ls hl => ?_)
        refine lv_iinc (v := (x9 + (-1))) (lv' := [(9, .int (x9 + (-1))), (8, .int ((x8 * (g 0)) + (a 4 (((27 * x7) + u15) : Int32).toNatClampNeg))), (0, .ref ((Eq_ E qf).2.1 0)), (2, .ref ((Eq_ E qf).2.1 14)), (3, .ref ((Eq_ E qf).2.1 15)), (5, .int x5), (6, .int x6), (7, .int x7)]) hx hb dX12_monoid_150 hl (k := 7) rfl rfl (by decide) rfl (fun ls hl => ?_)
        refine lv_goto (tgt := 114) hx hb dX12_monoid_153 (by decide) ?_
        exact ih a x5 x6 x7 ((x8 * (g 0)) + (a 4 (((27 * x7) + u15) : Int32).toNatClampNeg)) (x9 + (-1)) _ _ _ hP hS (lv_sub hl [2, 3, 4, 5, 6, 7, 1, 0] rfl) hf
  have B94 : ∀ (K84 : xA → Int32 → Int32 → Option (Int32 × xA)) (hK84 : ∀ (a : xA) (x5 : Int32) (x6 : Int32) (H : Heap) (locs : List Loc) (ls : Array Slot), va_P (Eq_ E qf).1 vwCl (wN (Eq_ E qf) g a) H → va_S A s.heap H locs → lv_has ls 10 [(0, .ref ((Eq_ E qf).2.1 0)), (2, .ref ((Eq_ E qf).2.1 14)), (3, .ref ((Eq_ E qf).2.1 15)), (5, .int x5), (6, .int x6)] → K84 a x5 x6 = some res → W p l e ({ frames := 2, cells := 2, slots := 54, locals := 45 }) s m ([.ref (E.2.1 0)] : List Value).toArray below meth c H locs 2 54 (MQ below (xQi E res.1 (wM E g res.2) A) ([.ref (E.2.1 0)] : List Value).toArray s 2 54 A) (F0 m 84 ls [])) (n : Nat) (a : xA) (x5 : Int32) (x6 : Int32) (x7 : Int32) (H : Heap) (locs : List Loc) (ls : Array Slot), va_P (Eq_ E qf).1 vwCl (wN (Eq_ E qf) g a) H → va_S A s.heap H locs → lv_has ls 10 [(0, .ref ((Eq_ E qf).2.1 0)), (2, .ref ((Eq_ E qf).2.1 14)), (3, .ref ((Eq_ E qf).2.1 15)), (5, .int x5), (6, .int x6), (7, .int x7)] → f_X12_monoid_94 g K84 n a x5 x6 x7 = some res → W p l e ({ frames := 2, cells := 2, slots := 54, locals := 45 }) s m ([.ref (E.2.1 0)] : List Value).toArray below meth c H locs 2 54 (MQ below (xQi E res.1 (wM E g res.2) A) ([.ref (E.2.1 0)] : List Value).toArray s 2 54 A) (F0 m 94 ls []) := by
    intro K84 hK84 n
    induction n with
    | zero => intro a x5 x6 x7 H locs ls hP hS hl hf; exact absurd (show (none : Option (Int32 × xA)) = some res from hf) (by intro h; cases h)
    | succ n ih =>
      intro a x5 x6 x7 H locs ls hP hS hl hf
      replace hf := (e_X12_monoid_94 g K84 n a x5 x6 x7).symm.trans hf
      refine lv_iload hx hb dX12_monoid_94 (lv_at hl 5 rfl) ?_
      refine lv_aload_n hx hb dX12_monoid_96 rfl (lv_at hl 0 rfl) ?_
      refine va_get (C := RX12) (T := TX12) (N := 22) hx hb hw bfX120 hown hK hP 0 (gm_0 (Eq_ E qf) g a) rfl 4 (by decide) (hw _ bw783) (fun _ h9 => h9) rfl dX12_monoid_97 ?_
      refine lv_icmp_ge (tgt := 194) hx hb dX12_monoid_100 (by decide) (fun c6 => ?_) (fun c6 => ?_)
      · replace hf := (if_pos c6).symm.trans hf
        refine lv_iinc (v := (x6 + 1)) (lv' := [(6, .int (x6 + 1)), (0, .ref ((Eq_ E qf).2.1 0)), (2, .ref ((Eq_ E qf).2.1 14)), (3, .ref ((Eq_ E qf).2.1 15)), (5, .int x5), (7, .int x7)]) hx hb dX12_monoid_194 hl (k := 4) rfl rfl (by decide) rfl (fun ls hl => ?_)
        refine lv_goto (tgt := 84) hx hb dX12_monoid_197 (by decide) ?_
        exact hK84 a x5 (x6 + 1) _ _ _ hP hS (lv_sub hl [1, 2, 3, 4, 0] rfl) hf
      · replace hf := (if_neg c6).symm.trans hf
        refine lv_iconst (v := 0) hx hb dX12_monoid_103 (by decide) ?_
        refine lv_istore (lv' := [(8, .int 0), (0, .ref ((Eq_ E qf).2.1 0)), (2, .ref ((Eq_ E qf).2.1 14)), (3, .ref ((Eq_ E qf).2.1 15)), (5, .int x5), (6, .int x6), (7, .int x7)]) hx hb dX12_monoid_104 hl (by decide) rfl (fun ls hl => ?_)
        refine lv_aload_n hx hb dX12_monoid_106 rfl (lv_at hl 1 rfl) ?_
        refine va_get (C := RX12) (T := TX12) (N := 22) hx hb hw bfX120 hown hK hP 0 (gm_0 (Eq_ E qf) g a) rfl 0 (by decide) (hw _ bw755) (fun _ h9 => h9) rfl dX12_monoid_107 ?_
        refine lv_iconst (v := 1) hx hb dX12_monoid_110 (by decide) ?_
        refine lv_isub hx hb dX12_monoid_111 ?_
        refine lv_istore (lv' := [(9, .int ((g 0) - 1)), (8, .int 0), (0, .ref ((Eq_ E qf).2.1 0)), (2, .ref ((Eq_ E qf).2.1 14)), (3, .ref ((Eq_ E qf).2.1 15)), (5, .int x5), (6, .int x6), (7, .int x7)]) hx hb dX12_monoid_112 hl (by decide) rfl (fun ls hl => ?_)
        exact B114 K84 hK84 (f_X12_monoid_94 g K84 n) ih fu a x5 x6 x7 0 ((g 0) - 1) _ _ _ hP hS (lv_sub hl [2, 3, 4, 5, 6, 7, 1, 0] rfl) hf
  have B84 : ∀ (n : Nat) (a : xA) (x5 : Int32) (x6 : Int32) (H : Heap) (locs : List Loc) (ls : Array Slot), va_P (Eq_ E qf).1 vwCl (wN (Eq_ E qf) g a) H → va_S A s.heap H locs → lv_has ls 10 [(0, .ref ((Eq_ E qf).2.1 0)), (2, .ref ((Eq_ E qf).2.1 14)), (3, .ref ((Eq_ E qf).2.1 15)), (5, .int x5), (6, .int x6)] → f_X12_monoid_84 g n a x5 x6 = some res → W p l e ({ frames := 2, cells := 2, slots := 54, locals := 45 }) s m ([.ref (E.2.1 0)] : List Value).toArray below meth c H locs 2 54 (MQ below (xQi E res.1 (wM E g res.2) A) ([.ref (E.2.1 0)] : List Value).toArray s 2 54 A) (F0 m 84 ls []) := by
    intro n
    induction n with
    | zero => intro a x5 x6 H locs ls hP hS hl hf; exact absurd (show (none : Option (Int32 × xA)) = some res from hf) (by intro h; cases h)
    | succ n ih =>
      intro a x5 x6 H locs ls hP hS hl hf
      replace hf := (e_X12_monoid_84 g n a x5 x6).symm.trans hf
      refine lv_iload hx hb dX12_monoid_84 (lv_at hl 4 rfl) ?_
      refine lv_iload hx hb dX12_monoid_86 (lv_at hl 3 rfl) ?_
      refine lv_icmp_ge (tgt := 200) hx hb dX12_monoid_88 (by decide) (fun c5 => ?_) (fun c5 => ?_)
      · replace hf := (if_pos c5).symm.trans hf
        refine lv_iload hx hb dX12_monoid_200 (lv_at hl 3 rfl) ?_
        exact xn_ret hx hb hr hlocks (Option.some.inj hf) hW hP hS dX12_monoid_202
      · replace hf := (if_neg c5).symm.trans hf
        refine lv_iconst (v := 0) hx hb dX12_monoid_91 (by decide) ?_
        refine lv_istore (lv' := [(7, .int 0), (0, .ref ((Eq_ E qf).2.1 0)), (2, .ref ((Eq_ E qf).2.1 14)), (3, .ref ((Eq_ E qf).2.1 15)), (5, .int x5), (6, .int x6)]) hx hb dX12_monoid_92 hl (by decide) rfl (fun ls hl => ?_)
        exact B94 (f_X12_monoid_84 g n) ih fu a x5 x6 0 _ _ _ hP hS (lv_sub hl [1, 2, 3, 4, 5, 0] rfl) hf
  have B69 : ∀ (a : xA) (x4 : Int32) (s0 : Int32) (H : Heap) (locs : List Loc) (ls : Array Slot), va_P (Eq_ E qf).1 vwCl (wN (Eq_ E qf) g a) H → va_S A s.heap H locs → lv_has ls 10 [(0, .ref ((Eq_ E qf).2.1 0)), (2, .ref ((Eq_ E qf).2.1 14)), (3, .ref ((Eq_ E qf).2.1 15)), (4, .int x4)] → f_X12_monoid_69 g a x4 s0 = some res → W p l e ({ frames := 2, cells := 2, slots := 54, locals := 45 }) s m ([.ref (E.2.1 0)] : List Value).toArray below meth c H locs 2 54 (MQ below (xQi E res.1 (wM E g res.2) A) ([.ref (E.2.1 0)] : List Value).toArray s 2 54 A) (F0 m 69 ls [.int s0]) := by
    intro a x4 s0 H locs ls hP hS hl hf
    unfold f_X12_monoid_69 at hf
    refine lv_istore (lv' := [(5, .int s0), (0, .ref ((Eq_ E qf).2.1 0)), (2, .ref ((Eq_ E qf).2.1 14)), (3, .ref ((Eq_ E qf).2.1 15)), (4, .int x4)]) hx hb dX12_monoid_69 hl (by decide) rfl (fun ls hl => ?_)
    refine lv_aload_n hx hb dX12_monoid_71 rfl (lv_at hl 3 rfl) ?_
    refine lv_iconst (v := 0) hx hb dX12_monoid_72 (by decide) ?_
    refine lv_iload hx hb dX12_monoid_73 (lv_at hl 4 rfl) ?_
    obtain ⟨k3, hf⟩ := ck_some hf
    refine va_iast hx hb hK hP (wN_D hD) hS 15 0 (gn_15 (Eq_ E qf) g a) rfl (inB_in k3) dX12_monoid_75 (fun H locs hP _ hS => ?_)
    have hP := xP_eq (sn_a15 (Eq_ E qf) g a (upd (a 15) (0 : Int32).toNatClampNeg x4)) hP
    refine lv_aload_n hx hb dX12_monoid_76 rfl (lv_at hl 2 rfl) ?_
    refine lv_iload hx hb dX12_monoid_77 (lv_at hl 4 rfl) ?_
    refine lv_iconst (v := 1) hx hb dX12_monoid_79 (by decide) ?_
    obtain ⟨k4, hf⟩ := ck_some hf
    refine va_iast hx hb hK hP (wN_D hD) hS 14 0 (gn_14 (Eq_ E qf) g (upA a 15 (upd (a 15) (0 : Int32).toNatClampNeg x4))) rfl (inB_in k4) dX12_monoid_80 (fun H locs hP _ hS => ?_)
    have hP := xP_eq (sn_a14 (Eq_ E qf) g (upA a 15 (upd (a 15) (0 : Int32).toNatClampNeg x4)) (upd ((upA a 15 (upd (a 15) (0 : Int32).toNatClampNeg x4)) 14) (x4 : Int32).toNatClampNeg 1)) hP
    refine lv_iconst (v := 0) hx hb dX12_monoid_81 (by decide) ?_
    refine lv_istore (lv' := [(6, .int 0), (5, .int s0), (0, .ref ((Eq_ E qf).2.1 0)), (2, .ref ((Eq_ E qf).2.1 14)), (3, .ref ((Eq_ E qf).2.1 15)), (4, .int x4)]) hx hb dX12_monoid_82 hl (by decide) rfl (fun ls hl => ?_)
    exact B84 fu (upA (upA a 15 (upd (a 15) (0 : Int32).toNatClampNeg x4)) 14 (upd ((upA a 15 (upd (a 15) (0 : Int32).toNatClampNeg x4)) 14) (x4 : Int32).toNatClampNeg 1)) s0 0 _ _ _ hP hS (lv_sub hl [2, 3, 4, 1, 0] rfl) hf
  have B35 : ∀ (n : Nat) (a : xA) (x1 : Int32) (x4 : Int32) (x5 : Int32) (H : Heap) (locs : List Loc) (ls : Array Slot), va_P (Eq_ E qf).1 vwCl (wN (Eq_ E qf) g a) H → va_S A s.heap H locs → lv_has ls 10 [(0, .ref ((Eq_ E qf).2.1 0)), (1, .int x1), (2, .ref ((Eq_ E qf).2.1 14)), (3, .ref ((Eq_ E qf).2.1 15)), (4, .int x4), (5, .int x5)] → f_X12_monoid_35 g n a x1 x4 x5 = some res → W p l e ({ frames := 2, cells := 2, slots := 54, locals := 45 }) s m ([.ref (E.2.1 0)] : List Value).toArray below meth c H locs 2 54 (MQ below (xQi E res.1 (wM E g res.2) A) ([.ref (E.2.1 0)] : List Value).toArray s 2 54 A) (F0 m 35 ls []) := by
    intro n
    induction n with
    | zero => intro a x1 x4 x5 H locs ls hP hS hl hf; exact absurd (show (none : Option (Int32 × xA)) = some res from hf) (by intro h; cases h)
    | succ n ih =>
      intro a x1 x4 x5 H locs ls hP hS hl hf
      replace hf := (e_X12_monoid_35 g n a x1 x4 x5).symm.trans hf
      refine lv_iload hx hb dX12_monoid_35 (lv_at hl 5 rfl) ?_
      refine lv_if_lt (tgt := 58) hx hb dX12_monoid_37 (by decide) (fun c1 => ?_) (fun c1 => ?_)
      · replace hf := (if_pos c1).symm.trans hf
        refine lv_iload hx hb dX12_monoid_58 (lv_at hl 4 rfl) ?_
        refine lv_iload_n hx hb dX12_monoid_60 rfl (lv_at hl 1 rfl) ?_
        refine lv_icmp_ge (tgt := 68) hx hb dX12_monoid_61 (by decide) (fun c2 => ?_) (fun c2 => ?_)
        · replace hf := (if_pos c2).symm.trans hf
          refine lv_iconst (v := 0) hx hb dX12_monoid_68 (by decide) ?_
          exact B69 a x4 0 _ _ _ hP hS (lv_sub hl [0, 2, 3, 4] rfl) hf
        · replace hf := (if_neg c2).symm.trans hf
          refine lv_iconst (v := 1) hx hb dX12_monoid_64 (by decide) ?_
          refine lv_goto (tgt := 69) hx hb dX12_monoid_65 (by decide) ?_
          exact B69 a x4 1 _ _ _ hP hS (lv_sub hl [0, 2, 3, 4] rfl) hf
      · replace hf := (if_neg c1).symm.trans hf
        refine lv_iload hx hb dX12_monoid_40 (lv_at hl 4 rfl) ?_
        refine lv_aload_n hx hb dX12_monoid_42 rfl (lv_at hl 0 rfl) ?_
        refine va_get (C := RX12) (T := TX12) (N := 22) hx hb hw bfX120 hown hK hP 0 (gm_0 (Eq_ E qf) g a) rfl 0 (by decide) (hw _ bw755) (fun _ h9 => h9) rfl dX12_monoid_43 ?_
        refine lv_imul hx hb dX12_monoid_46 ?_
        refine lv_iload hx hb dX12_monoid_47 (lv_at hl 5 rfl) ?_
        refine lv_iadd hx hb dX12_monoid_49 ?_
        refine lv_istore (lv' := [(4, .int ((x4 * (g 0)) + x5)), (0, .ref ((Eq_ E qf).2.1 0)), (1, .int x1), (2, .ref ((Eq_ E qf).2.1 14)), (3, .ref ((Eq_ E qf).2.1 15)), (5, .int x5)]) hx hb dX12_monoid_50 hl (by decide) rfl (fun ls hl => ?_)
        refine lv_iinc (v := (x5 + (-1))) (lv' := [(5, .int (x5 + (-1))), (4, .int ((x4 * (g 0)) + x5)), (0, .ref ((Eq_ E qf).2.1 0)), (1, .int x1), (2, .ref ((Eq_ E qf).2.1 14)), (3, .ref ((Eq_ E qf).2.1 15))]) hx hb dX12_monoid_52 hl (k := 5) rfl rfl (by decide) rfl (fun ls hl => ?_)
        refine lv_goto (tgt := 35) hx hb dX12_monoid_55 (by decide) ?_
        exact ih a x1 ((x4 * (g 0)) + x5) (x5 + (-1)) _ _ _ hP hS (lv_sub hl [2, 3, 4, 5, 1, 0] rfl) hf
  generalize u1 = v1 at hf hl
  unfold f_X12_monoid_24 at hf
  refine lv_iconst (v := 0) hx hb dX12_monoid_24 (by decide) ?_
  refine lv_istore (lv' := [(4, .int 0), (3, .ref ((Eq_ E qf).2.1 15)), (2, .ref ((Eq_ E qf).2.1 14)), (1, .int v1), (0, .ref ((Eq_ E qf).2.1 0))]) hx hb dX12_monoid_25 hl (by decide) rfl (fun ls hl => ?_)
  refine lv_aload_n hx hb dX12_monoid_27 rfl (lv_at hl 4 rfl) ?_
  refine va_get (C := RX12) (T := TX12) (N := 22) hx hb hw bfX120 hown hK hP 0 (gm_0 (Eq_ E qf) g a) rfl 0 (by decide) (hw _ bw755) (fun _ h9 => h9) rfl dX12_monoid_28 ?_
  refine lv_iconst (v := 1) hx hb dX12_monoid_31 (by decide) ?_
  refine lv_isub hx hb dX12_monoid_32 ?_
  refine lv_istore (lv' := [(5, .int ((g 0) - 1)), (4, .int 0), (3, .ref ((Eq_ E qf).2.1 15)), (2, .ref ((Eq_ E qf).2.1 14)), (1, .int v1), (0, .ref ((Eq_ E qf).2.1 0))]) hx hb dX12_monoid_33 hl (by decide) rfl (fun ls hl => ?_)
  exact B35 fu a v1 0 ((g 0) - 1) _ _ _ hP hS (lv_sub hl [5, 4, 3, 2, 1, 0] rfl) hf
