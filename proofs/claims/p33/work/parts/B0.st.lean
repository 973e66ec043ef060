/-! What stands between the law's calls; its small sums. -/
def St (d R K V C : Nat) (pl tu ar cr : Nat → Nat) (an cv : Nat → Nat → Nat) (g : xG) (a : xA) : Prop := ∃ (T : Nat) (ch : Nat → Nat) (gm : xG) (am : xA), Bas d g a ∧ gm 0 = nI d ∧ CR d R pl tu g a gm am ∧ CK d K ar an g a gm am ∧ CT T ch g a gm am ∧ CI R V C pl cr cv g a gm am
theorem St_fr {d R K V C : Nat} {pl tu ar cr : Nat → Nat} {an cv : Nat → Nat → Nat} {g g' : xG} {a a' : xA} (h : St d R K V C pl tu ar cr an cv g a) (s : Sm PX QX g a g' a') : St d R K V C pl tu ar cr an cv g' a' := by
  obtain ⟨T, ch, gm, am, hB, h0, hR, hK, hT, hI⟩ := h
  have sm : SmM gm am gm am := SmM_rfl
  refine ⟨T, ch, gm, am, Bas_sm hB s, (sm.1 0 (by decide)).trans h0, ⟨hR.1, (s.1 1 (by decide)).trans hR.2.1, (sm.1 1 (by decide)).trans hR.2.2.1, (congrFun (s.2 5 (by decide)) 8).trans hR.2.2.2.1, (congrFun (s.2 6 (by decide)) 8).trans hR.2.2.2.2.1, fun r hr => ?_⟩, ⟨hK.1, (s.1 4 (by decide)).trans hK.2.1, (sm.1 2 (by decide)).trans hK.2.2.1, fun k hk => ?_⟩, ⟨hT.1, (s.1 6 (by decide)).trans hT.2.1, (sm.1 3 (by decide)).trans hT.2.2.1, fun i hi => ?_⟩, ⟨hI.1, hI.2.1, hI.2.2.1, (s.1 14 (by decide)).trans hI.2.2.2.1, (sm.1 6 (by decide)).trans hI.2.2.2.2.1, (s.1 13 (by decide)).trans hI.2.2.2.2.2.1, (sm.1 7 (by decide)).trans hI.2.2.2.2.2.2.1, fun c hc => ?_⟩⟩
  · obtain ⟨q1, q2, q3, q4, q5⟩ := hR.2.2.2.2.2 r hr
    exact ⟨(congrFun (s.2 5 (by decide)) r).trans q1, (congrFun (sm.2.1 1 (by decide) (by decide)) r).trans q2, (congrFun (s.2 6 (by decide)) r).trans q3, (congrFun (sm.2.1 2 (by decide) (by decide)) r).trans q4, q5⟩
  · obtain ⟨q1, q2, q3⟩ := hK.2.2.2 k hk
    have hk6 : k < 6 := Nat.lt_of_lt_of_le hk hK.1
    have hw27 := pw3 hB.1 q1.2.2.2.1
    have hp : ∀ k, k < 6 → ¬ (15 + k) ∈ PX ∧ ¬ (47 + k) ∈ QX := by decide
    refine ⟨⟨q1.1, (s.1 _ (hp k hk6).1).trans q1.2.1, q1.2.2.1, q1.2.2.2.1, fun p hp1 => ⟨(congrFun (s.2 _ (hp k hk6).2) p).trans (q1.2.2.2.2 p hp1).1, (q1.2.2.2.2 p hp1).2⟩⟩, ⟨q2.1, q2.2.1, q2.2.2.1, fun p hp1 => ⟨(sm.2.2 _ (by omega)).trans (q2.2.2.2 p hp1).1, (q2.2.2.2 p hp1).2⟩⟩, (congrFun (sm.2.1 3 (by decide) (by decide)) k).trans q3⟩
  · obtain ⟨q1, q2, q3⟩ := hT.2.2.2 i hi
    exact ⟨(congrFun (s.2 20 (by decide)) i).trans q1, (congrFun (sm.2.1 5 (by decide) (by decide)) i).trans q2, q3⟩
  · obtain ⟨q1, q2, q3, q4, q5, q6⟩ := hI.2.2.2.2.2.2.2 c hc
    refine ⟨q1, (congrFun (s.2 32 (by decide)) c).trans q2, (congrFun (sm.2.1 9 (by decide) (by decide)) c).trans q3, (congrFun (s.2 33 (by decide)) c).trans q4, (congrFun (s.2 35 (by decide)) c).trans q5, fun p hp => ?_⟩
    obtain ⟨r1, r2, r3⟩ := q6 p hp
    exact ⟨(congrFun (s.2 34 (by decide)) _).trans r1, (congrFun (sm.2.1 10 (by decide) (by decide)) _).trans r2, r3⟩
theorem St_of {g : xG} {a : xA} {gm : xG} {am : xA} (h : Cpl g a gm am) : ∃ (d R K V C : Nat) (pl tu ar cr : Nat → Nat) (an cv : Nat → Nat → Nat), St d R K V C pl tu ar cr an cv g a := by
  obtain ⟨d, R, K, T, V, C, pl, tu, ar, ch, cr, an, cv, hB, h0, hR, hK, hT, hI⟩ := h
  exact ⟨d, R, K, V, C, pl, tu, ar, cr, an, cv, T, ch, gm, am, hB, h0, hR, hK, hT, hI⟩
theorem Cpl_of {d R K V C : Nat} {pl tu ar cr : Nat → Nat} {an cv : Nat → Nat → Nat} {g : xG} {a : xA} (h : St d R K V C pl tu ar cr an cv g a) : ∃ (gm : xG) (am : xA), Cpl g a gm am := by
  obtain ⟨T, ch, gm, am, hB, h0, hR, hK, hT, hI⟩ := h
  exact ⟨gm, am, d, R, K, T, V, C, pl, tu, ar, ch, cr, an, cv, hB, h0, hR, hK, hT, hI⟩
theorem and_max (v : Int32) : ∃ m, m < 2 ^ 31 ∧ v &&& 2147483647 = nI m := by
  refine ⟨v.toBitVec.toNat &&& 2147483647, Nat.and_lt_two_pow _ (by decide), ?_⟩
  apply Int32.toBitVec_inj.mp
  have e1 : (v &&& 2147483647).toBitVec = v.toBitVec &&& BitVec.ofNat 32 2147483647 := rfl
  have e2 : (nI (v.toBitVec.toNat &&& 2147483647)).toBitVec = BitVec.ofNat 32 (v.toBitVec.toNat &&& 2147483647) := rfl
  rw [e1, e2, BitVec.ofNat_and, BitVec.ofNat_toNat, BitVec.setWidth_eq]
theorem low_ok {g : xG} {a : xA} (v : Int32) {n : Nat} (h1 : 1 ≤ n) (h2 : n < 2 ^ 31) : ∃ k, k < n ∧ f_L_low g a v (nI n) = some (nI k) := by
  obtain ⟨m, hm, e⟩ := and_max v
  refine ⟨m % n, Nat.mod_lt _ h1, ?_⟩
  unfold f_L_low
  rw [ck_t (nzB_t h1 h2), e, pk_rem hm h1 h2]
theorem bit_at {s p : Nat} (hp : p < 32) (hs : s < 2 ^ 31) : (nI s >>> (nI p &&& 31)) &&& 1 = nI (if s.testBit p then 1 else 0) := by
  have e1 : nI s >>> (nI p &&& 31) = nI (s / 2 ^ p) := pk_shrN hs _ p (sh_l p hp)
  have e2 : nI (s / 2 ^ p) &&& 1 = nI (s / 2 ^ p % 2) := by
    have := nI_and (s / 2 ^ p) 1
    rw [and1] at this
    exact this
  rw [e1, e2, tb_mod]
theorem bits_loop {g : xG} {a : xA} {s : Nat} (hs : s < 2 ^ 31) : ∀ (r p n : Nat), p + r = 9 → r < n → f_L_bits_4 g a n (nI s) (nI (pc s p)) (nI p) = some (nI (pc s 9))
  | 0, p, n, hp, hn => by
    obtain ⟨n, rfl⟩ := pos_of hn
    have e : p = 9 := by omega
    subst e
    rw [e_L_bits_4, if_pos (show (9 : Int32) ≤ nI 9 from nI_le (Nat.le_refl 9) (by decide))]
  | r + 1, p, n, hp, hn => by
    obtain ⟨n, rfl⟩ := pos_of hn
    have ep : pc s (p + 1) = pc s p + (if s.testBit p then 1 else 0) := rfl
    rw [e_L_bits_4, if_neg (show ¬ (9 : Int32) ≤ nI p from nI_ge (a := p) (b := 9) (by omega) (by decide)), bit_at (by omega) hs, nI_add, ← ep, show nI p + 1 = nI (p + 1) from nI_1 p]
    exact bits_loop hs r (p + 1) n (by omega) (by omega)
theorem bits_ok {g : xG} {a : xA} {s : Nat} (hs : s < 2 ^ 31) : f_L_bits g a (nI s) = some (nI (pc s 9)) := bits_loop hs 9 0 fu (by omega) (fu_gt (by omega))
theorem val_loop {g : xG} {a : xA} {d c v : Nat} (hd : d = 2 ∨ d = 3) (hc : c < 2 ^ 31) (hv : v < 100) : ∀ (r p n : Nat), p + r = v → r < n → f_L_value_5 g a n (nI d) (nI v) (nI (c / d ^ p)) (nI p) = some (nI (dg d c v))
  | 0, p, n, hp, hn => by
    obtain ⟨n, rfl⟩ := pos_of hn
    have e : p = v := by omega
    subst e
    have h1 : c / d ^ p < 2 ^ 31 := Nat.lt_of_le_of_lt (Nat.div_le_self ..) hc
    rw [e_L_value_5, if_pos (nI_le (Nat.le_refl _) (by omega)), ck_t (nzB_t (by omega) (by omega)), pk_rem h1 (by omega) (by omega)]
    rfl
  | r + 1, p, n, hp, hn => by
    obtain ⟨n, rfl⟩ := pos_of hn
    have h1 : c / d ^ p < 2 ^ 31 := Nat.lt_of_le_of_lt (Nat.div_le_self ..) hc
    rw [e_L_value_5, if_neg (nI_ge (by omega) (by omega)), ck_t (nzB_t (by omega) (by omega)), pk_div h1 (by omega) (by omega), Nat.div_div_eq_div_mul, ← Nat.pow_succ, show nI p + 1 = nI (p + 1) from nI_1 p]
    exact val_loop hd hc hv r (p + 1) n (by omega) (by omega)
theorem val_ok {g : xG} {a : xA} {d c v : Nat} (hd : d = 2 ∨ d = 3) (hc : c < 2 ^ 31) (hv : v < 100) : f_L_value g a (nI c) (nI d) (nI v) = some (nI (dg d c v)) := by
  have h := val_loop (g := g) (a := a) hd hc hv v 0 fu (by omega) (fu_gt (by omega))
  rw [Nat.pow_zero, Nat.div_one] at h
  exact h
theorem St_r {d R K V C : Nat} {pl tu ar cr : Nat → Nat} {an cv : Nat → Nat → Nat} {g : xG} {a : xA} (h : St d R K V C pl tu ar cr an cv g a) {r : Nat} (hr : r < R) : a 5 r = nI (pl r) ∧ a 6 r = nI (tu r) ∧ 1 ≤ pl r ∧ pl r + d ≤ 5 ∧ tu r < 2 ^ (d ^ pl r) ∧ d ^ pl r ≤ 9 ∧ tu r < 512 := by
  obtain ⟨T, ch, gm, am, hB, h0, hR, hK, hT, hI⟩ := h
  obtain ⟨r1, r2, r3, r4, r5, r6, r7⟩ := hR.2.2.2.2.2 r hr
  have h9 := pw9 hB.1 r6
  exact ⟨r1, r3, r5, r6, r7, h9, Nat.lt_of_lt_of_le r7 (Nat.pow_le_pow_right (n := 2) (by decide) h9)⟩
theorem St_b {d R K V C : Nat} {pl tu ar cr : Nat → Nat} {an cv : Nat → Nat → Nat} {g : xG} {a : xA} (h : St d R K V C pl tu ar cr an cv g a) : Bas d g a ∧ (d = 2 ∨ d = 3) ∧ R ≤ 8 ∧ g 1 = nI R ∧ K ≤ 6 ∧ g 4 = nI K ∧ 1 ≤ V ∧ V ≤ 6 ∧ C ≤ 16 ∧ g 14 = nI V ∧ g 13 = nI C := by
  obtain ⟨T, ch, gm, am, hB, h0, hR, hK, hT, hI⟩ := h
  exact ⟨hB, hB.1, hR.1, hR.2.1, hK.1, hK.2.1, hI.1, hI.2.1, hI.2.2.1, hI.2.2.2.1, hI.2.2.2.2.2.1⟩
theorem St_k {d R K V C : Nat} {pl tu ar cr : Nat → Nat} {an cv : Nat → Nat → Nat} {g : xG} {a : xA} (h : St d R K V C pl tu ar cr an cv g a) {k : Nat} (hk : k < K) : Opr d k (ar k) (an k) g a := by
  obtain ⟨T, ch, gm, am, hB, h0, hR, hK, hT, hI⟩ := h
  exact (hK.2.2.2 k hk).1
theorem St_i {d R K V C : Nat} {pl tu ar cr : Nat → Nat} {an cv : Nat → Nat → Nat} {g : xG} {a : xA} (h : St d R K V C pl tu ar cr an cv g a) : Ins d 1 V C cr (fun c => pl (cr c)) cv (fun c => tu (cr c)) g a := by
  obtain ⟨T, ch, gm, am, hB, h0, hR, hK, hT, hI⟩ := h
  exact Ins_of hR hI
theorem St_th {d R K V C : Nat} {pl tu ar cr : Nat → Nat} {an cv : Nat → Nat → Nat} {g : xG} {a : xA} (h : St d R K V C pl tu ar cr an cv g a) {r : Nat} (hr : r < R) : ¬ t_X10_isThere g a (nI r) = 0 := by
  obtain ⟨-, -, h8, h1, -⟩ := St_b h
  rw [there_1 h1 hr (by omega)]
  decide
theorem ofr0 {d R K V C : Nat} {pl tu ar cr : Nat → Nat} {an cv : Nat → Nat → Nat} {g : xG} {a : xA} (h : St d R K V C pl tu ar cr an cv g a) {r : Nat} (hr : r < R) : f_X11_ofRelation g a (nI r) 0 = some (.inr (nI (pl r))) := by
  obtain ⟨r1, -⟩ := St_r h hr
  obtain ⟨-, -, h8, -⟩ := St_b h
  unfold f_X11_ofRelation
  rw [if_neg (St_th h hr), if_pos rfl, plOf (by omega) r1]
theorem ofr1 {d R K V C : Nat} {pl tu ar cr : Nat → Nat} {an cv : Nat → Nat → Nat} {g : xG} {a : xA} (h : St d R K V C pl tu ar cr an cv g a) {r : Nat} (hr : r < R) : f_X11_ofRelation g a (nI r) 1 = some (.inr (nI (tu r))) := by
  obtain ⟨-, r1, -⟩ := St_r h hr
  obtain ⟨-, -, h8, -⟩ := St_b h
  unfold f_X11_ofRelation
  rw [if_neg (St_th h hr), if_neg (by decide), if_pos rfl, tuOf (by omega) r1]
theorem ofr2 {d R K V C : Nat} {pl tu ar cr : Nat → Nat} {an cv : Nat → Nat → Nat} {g : xG} {a : xA} (h : St d R K V C pl tu ar cr an cv g a) {r : Nat} (hr : r < R) : f_X11_ofRelation g a (nI r) 2 = some (.inr (nI (pc (tu r) 9))) := by
  obtain ⟨-, r1, -, -, -, -, h9⟩ := St_r h hr
  obtain ⟨-, -, h8, -⟩ := St_b h
  unfold f_X11_ofRelation
  rw [if_neg (St_th h hr), if_neg (by decide), if_neg (by decide), if_pos rfl, tuOf (by omega) r1, bc9 h9, pc_up (n := 9) h9 (by decide)]
