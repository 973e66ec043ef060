/-! The start of the law: the object is made. -/
theorem th_stk {l : Launch} (h : l.flags = flags0) : l.stackTraces = false := by rw [Launch.stackTraces, h]; decide +kernel
theorem ar_of {s : State} {args : Array Value} {ty : FieldType} (h : (Cond.arrayClass ty).before args s = true) (hp : ∀ C, ty ≠ .object C) : ∃ cA : ClassId, ArrOfT s cA ty ∧ va_RA s cA ty := by
  obtain ⟨cA, kA, comp, h1, h2, h3⟩ := Cond.arrayClass_spec h
  refine ⟨cA, fun n z => ⟨fun k h => (by cases h), kA, h2, comp, h3⟩, ?_⟩
  cases ty with
  | object C => exact absurd rfl (hp C)
  | _ => exact h1
set_option maxRecDepth 100000 in
set_option maxHeartbeats 40000000 in
theorem start_of {p : Program} {e : Env} {s : State} {m : MethodId} {below : List Frame} {meth : Method} {c : Code} (l : Launch) (hflags : l.flags = flags0) {b L : Nat} {xs : Nat → Int32} (hL : L ≤ 260) (hlaw : ∃ r0 : xG × xA, f_X11_beginAnew g0X a0X 2 = some r0 ∧ f_L_law L xs r0.1 r0.2 = some 1) (C1 : lw_At p s m meth c b L xs) : W p l e room_1 s m #[Value.ref b] below meth c s.heap [] 0 0 (lw_Z below #[Value.ref b] s) (entryFrame m ([Value.ref b] : List Value).toArray 14) := by
  obtain ⟨hx, hb, hr, hml, hown, hts, hX, hbl, hlocks, hgv⟩ := id C1
  have hstk : l.stackTraces = false := th_stk hflags
  have hfl := flat_of_before _ hgv
  have hw : ∀ w ∈ BW, w.before #[Value.ref b] s = true := fun w h => hts w (BW_tbl w h)
  have hA : ∀ q : Nat, s.heap.size ≤ q → A0 s q := fun _ h => h
  have hN : nwP s := fun w h => va_Nw.of (by obtain ⟨a, i, x, k, rfl⟩ := NWl_is w h; rfl) (hts w (NW_tbl w h))
  have hT : thP s := fun w h => va_Nw.of (THl_face w h).2 (hts w (TH_tbl w h))
  have hst : stP s := fun q h => by
    have h1 := hts _ (ST_tbl q h)
    have h2 := hfl _ (ST_flat q h)
    obtain ⟨a, ha⟩ : ∃ a, (Term.string RX11 q.1).eval #[Value.ref b] s none [] s = some (.ref a) := by
      obtain ⟨a, _, _, _, h9, -⟩ := Cond.exactly_spec h2
      exact ⟨a, h9⟩
    exact ⟨a, vk_R.of (A := #[Value.ref b]) h1 ha⟩
  have hz : zP (A0 s) s s.heap := ⟨vx_Zqof (hts _ U_2) (hts _ U_3) (hfl _ U_1) (fun a h => Nat.not_le.mpr h), vx_Zqof (hts _ U_5) (hts _ U_3) (hfl _ U_4) (fun a h => Nat.not_le.mpr h)⟩
  have hnc : ncP s := by
    intro a b ha ha3 hb hb3 hab
    match a, b, ha, ha3, hb, hb3, hab with
    | 1, 2, _, _, _, _, _ => exact va_Nc.of (hfl _ nc_12)
    | 1, 3, _, _, _, _, _ => exact va_Nc.of (hfl _ nc_13)
    | 2, 1, _, _, _, _, _ => exact va_Nc.of (hfl _ nc_21)
    | 2, 3, _, _, _, _, _ => exact va_Nc.of (hfl _ nc_23)
    | 3, 1, _, _, _, _, _ => exact va_Nc.of (hfl _ nc_31)
    | 3, 2, _, _, _, _, _ => exact va_Nc.of (hfl _ nc_32)
    | 1, 1, _, _, _, _, h => exact absurd rfl h
    | 2, 2, _, _, _, _, h => exact absurd rfl h
    | 3, 3, _, _, _, _, h => exact absurd rfl h
  have hO : va_AO "Polymorphium$Operation" s := va_AO.of (A := #[Value.ref b]) (hts _ O_tbl)
  obtain ⟨c0, i0, k0⟩ := u_known (C := RX0) (T := TX0) (N := 5) (n := 5) hw bfX00 (hw (.instantiable RX0 5) bw559)
  obtain ⟨c1, i1, k1⟩ := u_known (C := RX1) (T := TX1) (N := 9) (n := 9) hw bfX10 (hw (.instantiable RX1 9) bw570)
  obtain ⟨c2, i2, k2⟩ := u_known (C := RX2) (T := TX2) (N := 10) (n := 10) hw bfX20 (hw (.instantiable RX2 10) bw85)
  obtain ⟨c3, i3, k3⟩ := u_known (C := RX3) (T := TX3) (N := 5) (n := 5) hw bfX30 (hw (.instantiable RX3 5) bw564)
  obtain ⟨c4, i4, k4⟩ := u_known (C := RX4) (T := TX4) (N := 3) (n := 3) hw bfX40 (hw (.instantiable RX4 3) bw555)
  obtain ⟨c5, i5, k5⟩ := u_known (C := RX5) (T := TX5) (N := 3) (n := 3) hw bfX50 (hw (.instantiable RX5 3) bw266)
  obtain ⟨c6, i6, k6⟩ := u_known (C := RX6) (T := TX6) (N := 5) (n := 5) hw bfX60 (hw (.instantiable RX6 5) bw562)
  obtain ⟨c7, i7, k7⟩ := u_known (C := RX7) (T := TX7) (N := 3) (n := 3) hw bfX70 (hw (.instantiable RX7 3) bw574)
  obtain ⟨c8, i8, k8⟩ := u_known (C := RX8) (T := TX8) (N := 8) (n := 8) hw bfX80 (hw (.instantiable RX8 8) bw262)
  obtain ⟨c9, i9, k9⟩ := u_known (C := RX9) (T := TX9) (N := 2) (n := 2) hw bfX90 (hw (.instantiable RX9 2) bw567)
  obtain ⟨c10, i10, k10⟩ := u_known (C := RX10) (T := TX10) (N := 4) (n := 4) hw bfX100 (hw (.instantiable RX10 4) bw557)
  obtain ⟨c11, i11, k11⟩ := u_known (C := RX11) (T := TX11) (N := 9) (n := 9) hw bfX110 (hw (.instantiable RX11 9) bw850)
  obtain ⟨dC, dI, hKc⟩ : ∃ (dC : Nat → ClassId) (dI : Nat → Nat → Nat), ∀ (k : Nat) (q : vw_C), vwCl[k]? = some q → u_Kn s q.1 q.2.1 q.2.2 (dC k) (dI k) := by
    refine ⟨fun k => if k = 0 then c0 else if k = 1 then c1 else if k = 2 then c2 else if k = 3 then c3 else if k = 4 then c4 else if k = 5 then c5 else if k = 6 then c6 else if k = 7 then c7 else if k = 8 then c8 else if k = 9 then c9 else if k = 10 then c10 else c11, fun k => if k = 0 then i0 else if k = 1 then i1 else if k = 2 then i2 else if k = 3 then i3 else if k = 4 then i4 else if k = 5 then i5 else if k = 6 then i6 else if k = 7 then i7 else if k = 8 then i8 else if k = 9 then i9 else if k = 10 then i10 else i11, ?_⟩
    intro k q hq
    match k, hq with
    | 0, hq => cases hq; exact k0
    | 1, hq => cases hq; exact k1
    | 2, hq => cases hq; exact k2
    | 3, hq => cases hq; exact k3
    | 4, hq => cases hq; exact k4
    | 5, hq => cases hq; exact k5
    | 6, hq => cases hq; exact k6
    | 7, hq => cases hq; exact k7
    | 8, hq => cases hq; exact k8
    | 9, hq => cases hq; exact k9
    | 10, hq => cases hq; exact k10
    | 11, hq => cases hq; exact k11
    | k + 12, hq => simp [vwCl] at hq
  obtain ⟨y0, ya0, yb0⟩ := ar_of (ty := .int) (hw _ bw4) (fun _ h => by cases h)
  obtain ⟨y1, ya1, yb1⟩ := ar_of (ty := .char) (hw _ bw528) (fun _ h => by cases h)
  obtain ⟨cp, y2, kA, z1, z2, z3, z4, z5⟩ := Cond.arrayOver_spec (hts _ O_tbl)
  obtain ⟨E, hE⟩ : ∃ E : xE, E = ((dC, dI), (fun _ => 0), (fun i => if i = 0 then y0 else if i = 1 then y1 else y2)) := ⟨_, rfl⟩
  have hK : va_K E.1 vwCl (tyX E) s := by
    subst hE
    refine ⟨hKc, fun k q hk => ?_⟩
    match k, hk with
    | 0, hk => cases hk; exact ⟨ya0, yb0⟩
    | 1, hk => cases hk; exact ⟨ya1, yb1⟩
    | 2, hk => cases hk; exact ⟨fun n z => ⟨(fun k h => by cases h), kA, z3, cp, z4⟩, kA, cp, z3, z4, z1, z5⟩
    | k + 3, hk => simp [tyX] at hk
  clear hE
  have hS : va_S (A0 s) s.heap s.heap [] := va_S.rf
  have hP : va_P E.1 vwCl [] s.heap := fun k q h => by simp at h
  have hD : va_D (A0 s) [] := ⟨fun i j p q h => by simp at h, fun k q h => by simp at h⟩
  have hl := lv_entry ([.ref b]) (n := 14) (Nat.le_of_ble_eq_true rfl)
  rw [lg_entry_eq]
  generalize (lg_sl ([.ref b]) ++ List.replicate (14 - (lg_sl ([.ref b])).length) Slot.unset).toArray = ls at hl ⊢
  have hl : lv_has ls 14 [(0, .ref b)] := hl
  obtain ⟨r0, hr0, hI0⟩ := hlaw
  have C9 : xCtx E p m c code 14 s #[Value.ref b] RL (A0 s) yX11_at cX11_at 2 (some .int) := ⟨hx, hb, hml, hown, (fun w h => by
    rcases List.mem_cons.mp h with rfl | h
    · exact hw _ bw9
    · exact hw _ h), hA, hK, hN⟩
  refine W.widen (k := 0) (n := 0) (Nat.le_refl _) (Nat.le_refl _) ?_
  refine va_new (ci := 11) (fs := [.null, .null, .null, .null, .null, .null, .null, .null, .null]) (C := RX11) (T := TX11) (N := 9) hx hb hw bfX110 tyX11 tyX11_ok hown (hw _ bw849) (hw _ bw850) (hw _ bw13) hK hP hD hS hA rfl (fun j hj => by match j, hj with | 0, _ => rfl | 1, _ => rfl | 2, _ => rfl | 3, _ => rfl | 4, _ => rfl | 5, _ => rfl | 6, _ => rfl | 7, _ => rfl | 8, _ => rfl | j + 9, h => exact absurd h (by omega)) (by show _ ≤ 623463; decide) (by show _ ≤ 7231235; decide) dL_law_0 (fun h0 H hP hD hS => ?_)
  have hP : va_P E.1 vwCl [(h0, .inr (11, [.null, .null, .null, .null, .null, .null, .null, .null, .null]))] H := hP
  have hD : va_D (A0 s) [(h0, .inr (11, [.null, .null, .null, .null, .null, .null, .null, .null, .null]))] := hD
  refine lv_dup hx hb dL_law_3 rfl ?_
  refine xcI (As := []) (rest := [.ref h0]) (k := 0) (wr := []) (wc := [(h0, .inr (11, [.null, .null, .null, .null, .null, .null, .null, .null, .null]))]) C9 hO (c_X11_init l E h0 hr0) bw594 bw851 bw13 bw852 rfl hd_X11_init ⟨Nat.le_of_ble_eq_true rfl, Nat.le_of_ble_eq_true rfl⟩ hP hD hS [0] [] rfl rfl (by decide) (by decide) (by decide) rfl hl.1 rfl (Nat.le_of_ble_eq_true rfl) dL_law_4 ⟨by show _ ≤ 623463; decide, by show _ ≤ 7231235; decide⟩ (fun w1 hw1 H1 locs1 hPn hDn hSn => ?_)
  clear hP hD hS
  obtain ⟨qx, hqx, rfl⟩ := hw1
  subst hqx
  have hP := hPn
  have hD := hDn
  have hS := hSn
  clear hPn hDn hSn
  refine lv_astore_n (lv' := [(1, .ref (qx 0)), (0, .ref b)]) hx hb dL_law_7 rfl hl (by decide) rfl (fun ls hl => ?_)
  obtain ⟨E1, hE1⟩ : ∃ E1 : xE, E1 = (E.1, qx, E.2.2) := ⟨_, rfl⟩
  have hP : va_P E1.1 vwCl (wX E1 r0.1 r0.2) H1 := by subst hE1; exact hP
  have hD : va_D (A0 s) (wX E1 r0.1 r0.2) := by subst hE1; exact hD
  have hl : lv_has ls 14 [(1, .ref (E1.2.1 0)), (0, .ref b)] := by subst hE1; exact hl
  have hK : va_K E1.1 vwCl (tyX E1) s := by subst hE1; exact hK
  have C9 : xCtx E1 p m c code 14 s #[Value.ref b] RL (A0 s) yX11_at cX11_at 2 (some .int) := by subst hE1; exact C9
  clear hE1
  have CC : gC p l s m c code 14 #[Value.ref b] E1 (A0 s) := ⟨hx, hb, hml, hown, hw, hA, hK, hN, hT, hst, hz, hnc, hstk⟩
  have hD2 : ∀ (g : xG) (a : xA), va_D (A0 s) (wX E1 g a) := fun g a => hD.eqv rfl
  refine W.widen (k := 200) (n := 20000) (by decide) (by decide) ?_
  exact c_L_law CC hr hlocks hL hX hbl hD2 rfl r0.1 r0.2 hP hS hl hI0
