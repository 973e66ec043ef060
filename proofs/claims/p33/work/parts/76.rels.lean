/-! tuple, ofRelation, operation, make, answers, code. -/
/-- how many bits below n -/
def pc (x : Nat) : Nat → Nat
  | 0 => 0
  | n + 1 => pc x n + if x.testBit n then 1 else 0
theorem pc_le (x : Nat) : ∀ n, pc x n ≤ n
  | 0 => Nat.le_refl _
  | n + 1 => by
    unfold pc
    have := pc_le x n
    split <;> omega
theorem bc512 : ∀ x, x < 512 → t_J6_bitCount_0f7a4 g0X a0X (nI x) = nI (pc x 31) := by decide +kernel
theorem bc9 {g : xG} {a : xA} {x : Nat} (h : x < 512) : t_J6_bitCount_0f7a4 g a (nI x) = nI (pc x 31) := bc512 x h
theorem cnt_loop {g : xG} {a : xA} {x : Nat} (hx : x < 2 ^ 31) : ∀ (r p n : Nat), p + r = 31 → r < n → f_X12_count_4 g a n (nI x) (nI (pc x p)) (nI p) = some (nI (pc x 31))
  | 0, p, n, hp, hn => by
    obtain ⟨n, rfl⟩ := pos_of hn
    have e : p = 31 := by omega
    subst e
    rw [e_X12_count_4, if_pos (show (31 : Int32) ≤ nI 31 from nI_le (Nat.le_refl 31) (by decide))]
  | r + 1, p, n, hp, hn => by
    obtain ⟨n, rfl⟩ := pos_of hn
    have e1 : nI x >>> (nI p &&& 31) = nI (x / 2 ^ p) := pk_shrN hx _ p (sh_l p (by omega))
    have e2 : nI (x / 2 ^ p) &&& 1 = nI (x / 2 ^ p % 2) := by
      have := nI_and (x / 2 ^ p) 1
      rw [and1] at this
      exact this
    rw [e_X12_count_4, if_neg (show ¬ (31 : Int32) ≤ nI p from nI_ge (a := p) (b := 31) (by omega) (by decide)), e1, e2, tb_mod, nI_add, show nI p + 1 = nI (p + 1) from nI_1 p]
    exact cnt_loop hx r (p + 1) n (by omega) (by omega)
theorem cntM {g : xG} {a : xA} {x : Nat} (hx : x < 2 ^ 31) : f_X12_count g a (nI x) = some (nI (pc x 31)) := cnt_loop hx 31 0 fu (by omega) (fu_gt (by omega))
theorem ob1_tuple : ob_tuple Cpl := by
  intro g a gm am v1 v2 v3 h
  have h8 : ∀ v, Cpl g a (upd gm 8 v) am := fun v => Cpl_8 h
  obtain ⟨d, R, K, T, V, C, pl, tu, ar, ch, cr, an, cv, hB, h0, hR, hK, hT, hI⟩ := h
  have hd := hB.1
  have hR8 := hR.1
  have hbad : ∀ x1 : Int32, f_X12_tuple_34 gm am x1 v2 v3 1 = some (0, upd gm 8 1, am) := fun x1 => by
    unfold f_X12_tuple_34
    rw [if_neg (by rw [upd_s]; decide)]
  rcases ix3 v1 (R := R) (by omega) with ⟨q1, q2⟩ | ⟨r, hr, rfl⟩
  · refine Or.inr ⟨(3, a), (0, upd gm 8 1, am), ?_, rfl, ?_, thr_8, h8 _⟩
    · unfold f_X11_tuple
      rw [if_pos (there_0 hR.2.1 q1)]
    · unfold f_X12_tuple
      rw [isRel_0 hR.2.2.1 q2, Option.bind_some, if_pos rfl]
      exact hbad _
  obtain ⟨r1, r2, r3, r4, r5, r6, r7⟩ := hR.2.2.2.2.2 r hr
  have hth : ¬ t_X10_isThere g a (nI r) = 0 := by rw [there_1 hR.2.1 hr (by omega)]; decide
  have h9 := pw9 hd r6
  have hp0 := pwp hd (pl r)
  have e1 : t_X4_power g a (t_X10_placesOf g a (nI r)) = nI (d ^ pl r) := by rw [plOf (by omega) r1, power_B hB (by omega)]
  have em : f_X12_tuple gm am (nI r) v2 v3 = if t_X12_in gm am v2 0 (nI (d ^ pl r) - 1) = 0 then f_X12_tuple_34 gm am (nI r) v2 v3 1 else f_X12_tuple_34 gm am (nI r) v2 v3 0 := by
    unfold f_X12_tuple
    rw [isRel_1 hR.2.2.1 hr (by omega), Option.bind_some, if_neg (by decide), ck_t (inB_t (by omega) (by decide)), nI_clamp (by omega), r2, pwM (by omega) h0, Option.bind_some]
  rcases ix3 v2 (R := d ^ pl r) (by omega) with ⟨q1, q2⟩ | ⟨t, ht, rfl⟩
  · refine Or.inr ⟨(3, a), (0, upd gm 8 1, am), ?_, rfl, ?_, thr_8, h8 _⟩
    · unfold f_X11_tuple
      rw [if_neg hth, e1]
      by_cases hneg : v2 < 0
      · rw [if_pos hneg]; rfl
      · rw [if_neg hneg, if_neg]
        · rfl
        · intro hlt
          rcases q1 with q1 | q1
          · exact hneg q1
          · rw [Int32.lt_iff_toInt_lt] at hlt
            rw [Int32.le_iff_toInt_le] at q1
            omega
    · rw [em, if_pos (inR_0 q2)]
      exact hbad _
  have htu : tu r < 2 ^ 9 := Nat.lt_of_lt_of_le r7 (Nat.pow_le_pow_right (by decide) h9)
  have hbx : (isInF (nI t) (nI (tu r))) = nI (if (tu r).testBit t then 1 else 0) := by
    rw [isIn_nI (by omega) (by omega)]
    split <;> rfl
  have hbm : t_X12_isIn (upd gm 8 0) am (nI (tu r)) (nI t) = nI (if (tu r).testBit t then 1 else 0) := by
    rw [isInM (by omega) (by omega)]
    split <;> rfl
  have hbo : boB (nI (if (tu r).testBit t then 1 else 0)) = true := boB_b (by split <;> simp)
  have main : ∀ x : Nat, x < 2 ^ (d ^ pl r) → Cpl g (upA a 6 (upd (a 6) r (nI x))) (upd gm 8 0) (upA am 2 (upd (am 2) r (nI x))) := fun x hx => by
    have ha : ∀ i, i ≠ 6 → upA a 6 (upd (a 6) r (nI x)) i = a i := fun i h1 => upA_n _ _ h1
    have hb : ∀ i, i ≠ 2 → upA am 2 (upd (am 2) r (nI x)) i = am i := fun i h1 => upA_n _ _ h1
    have hm : ∀ i, i ≠ 8 → upd gm 8 0 i = gm i := fun i h1 => upd_n _ _ h1
    refine ⟨d, R, K, T, V, C, pl, fun s => if s = r then x else tu s, ar, ch, cr, an, cv, Bas_fr hB rfl (ha _ (by decide)) (ha _ (by decide)), (hm _ (by decide)).trans h0, ⟨hR8, hR.2.1, (hm _ (by decide)).trans hR.2.2.1, (congrFun (ha 5 (by decide)) 8).trans hR.2.2.2.1, ?_, fun s hs => ?_⟩, CK_fr hK rfl (hm _ (by decide)) (fun _ _ => rfl) (fun k hk => ha _ (by omega)) (hb _ (by decide)) (hb _ (by decide)), CT_fr hT rfl (hm _ (by decide)) (ha _ (by decide)) (hb _ (by decide)), CI_fr hI (Nat.le_refl _) (fun _ _ => rfl) rfl rfl (hm _ (by decide)) (hm _ (by decide)) (ha _ (by decide)) (ha _ (by decide)) (ha _ (by decide)) (ha _ (by decide)) (hb _ (by decide)) (hb _ (by decide))⟩
    · rw [upA_s, upd_n _ _ (by omega)]
      exact hR.2.2.2.2.1
    · obtain ⟨s1, s2, s3, s4, s5, s6, s7⟩ := hR.2.2.2.2.2 s hs
      refine ⟨(congrFun (ha 5 (by decide)) s).trans s1, (congrFun (hb 1 (by decide)) s).trans s2, ?_⟩
      rw [upA_s, upA_s]
      dsimp only
      by_cases hsr : s = r
      · rw [if_pos hsr, hsr, upd_s, upd_s]
        exact ⟨rfl, rfl, r5, r6, hx⟩
      · rw [if_neg hsr, upd_n _ _ hsr, upd_n _ _ hsr]
        exact ⟨s3, s4, s5, s6, s7⟩
  have hin : ¬ t_X12_in gm am (nI t) 0 (nI (d ^ pl r) - 1) = 0 := by rw [inR_1 ht (by omega)]; decide
  have ebit : (1 : Int32) <<< (nI t &&& 31) = nI (2 ^ t) := shl_nI (by omega)
  by_cases hv : v3 = 0
  · refine Or.inl ⟨(nI (if (tu r).testBit t then 1 else 0), upA a 6 (upd (a 6) r (nI (bdiff (tu r) (2 ^ t))))), (nI (if (tu r).testBit t then 1 else 0), upd gm 8 0, upA am 2 (upd (am 2) r (nI (bdiff (tu r) (2 ^ t))))), ?_, ?_, thr_8, rfl, main _ (bdiff_le _ _ r7)⟩
    · unfold f_X11_tuple
      rw [if_neg hth, if_neg (nI_pos (by omega)), e1, if_pos (nI_lt ht (by omega)), if_pos hv]
      unfold f_X11_tuple_90 t_X10_setTuples
      rw [tuOf (by omega) r3, hbx, ck_t hbo, ebit, nI_diff, put_in (by omega) (by decide)]
    · rw [em, if_neg hin]
      unfold f_X12_tuple_34
      rw [if_pos (le00 (by decide)), ck_t (inB_t (by omega) (by decide)), if_pos hv, ck_t (inB_t (by omega) (by decide)), ck_t (inB_t (by omega) (by decide)), nI_clamp (by omega), r4, hbm, ck_t hbo, ebit, nI_diff]
  · refine Or.inl ⟨(nI (if (tu r).testBit t then 1 else 0), upA a 6 (upd (a 6) r (nI (tu r ||| 2 ^ t)))), (nI (if (tu r).testBit t then 1 else 0), upd gm 8 0, upA am 2 (upd (am 2) r (nI (tu r ||| 2 ^ t)))), ?_, ?_, thr_8, rfl, main _ (or_lt r7 ht)⟩
    · unfold f_X11_tuple
      rw [if_neg hth, if_neg (nI_pos (by omega)), e1, if_pos (nI_lt ht (by omega)), if_neg hv]
      unfold f_X11_tuple_90 t_X10_setTuples
      rw [tuOf (by omega) r3, hbx, ck_t hbo, ebit, nI_or, put_in (by omega) (by decide)]
    · rw [em, if_neg hin]
      unfold f_X12_tuple_34
      rw [if_pos (le00 (by decide)), ck_t (inB_t (by omega) (by decide)), if_neg hv, ck_t (inB_t (by omega) (by decide)), ck_t (inB_t (by omega) (by decide)), nI_clamp (by omega), r4, hbm, ck_t hbo, ebit, nI_or]
theorem ob1_ofRelation : ob_ofRelation Cpl := by
  intro g a gm am v1 v2 h
  have h8 : ∀ v, Cpl g a (upd gm 8 v) am := fun v => Cpl_8 h
  obtain ⟨d, R, K, T, V, C, pl, tu, ar, ch, cr, an, cv, hB, h0, hR, hK, hT, hI⟩ := h
  have hd := hB.1
  have hR8 := hR.1
  have hbad : ∀ (x1 : Int32) (s : Nat), s ≠ 0 → s < 4 → f_X12_ofRelation_27 am gm x1 v2 (nI s) = some (0, upd gm 8 (nI s)) := fun x1 s hs h4 => by
    unfold f_X12_ofRelation_27
    rw [if_neg (by rw [upd_s]; exact nI_nle (by omega) (by omega))]
  rcases ix3 v1 (R := R) (by omega) with ⟨q1, q2⟩ | ⟨r, hr, rfl⟩
  · refine Or.inr (Or.inl ⟨3, (0, upd gm 8 (nI 1)), ?_, rfl, ?_, thr_8, h8 _⟩)
    · unfold f_X11_ofRelation
      rw [if_pos (there_0 hR.2.1 q1)]
    · unfold f_X12_ofRelation
      rw [isRel_0 hR.2.2.1 q2, Option.bind_some, if_pos rfl]
      exact hbad _ 1 (by decide) (by decide)
  obtain ⟨r1, r2, r3, r4, r5, r6, r7⟩ := hR.2.2.2.2.2 r hr
  have hth : ¬ t_X10_isThere g a (nI r) = 0 := by rw [there_1 hR.2.1 hr (by omega)]; decide
  have h9 := pw9 hd r6
  have htu : tu r < 512 := Nat.lt_of_lt_of_le r7 (Nat.pow_le_pow_right (n := 2) (by decide) h9)
  have em : f_X12_ofRelation gm am (nI r) v2 = if t_X12_in gm am v2 0 2 = 0 then f_X12_ofRelation_27 am gm (nI r) v2 2 else f_X12_ofRelation_27 am gm (nI r) v2 0 := by
    unfold f_X12_ofRelation
    rw [isRel_1 hR.2.2.1 hr (by omega), Option.bind_some, if_neg (by decide)]
  by_cases q : v2 < nI 0 ∨ nI 2 < v2
  · refine Or.inr (Or.inr ⟨1, (0, upd gm 8 (nI 2)), ?_, rfl, ?_, thr_8, h8 _⟩)
    · unfold f_X11_ofRelation
      have hne : ∀ j, j ≤ 2 → ¬ v2 = nI j := fun j hj e => by
        rw [e, nI_ltI (by omega) (by decide), nI_ltI (by decide) (by omega)] at q
        omega
      rw [if_neg hth, if_neg (show ¬ v2 = 0 from hne 0 (by decide)), if_neg (show ¬ v2 = 1 from hne 1 (by decide)), if_neg (show ¬ v2 = 2 from hne 2 (by decide))]
    · rw [em, if_pos (show t_X12_in gm am v2 0 2 = 0 from in_0 q)]
      exact hbad _ 2 (by decide) (by decide)
  rcases tri v2 (lo := 0) (hi := 2) (by decide) (by decide) with q' | q' | ⟨j, q1, q2, rfl⟩
  · exact absurd (Or.inl q') q
  · exact absurd (Or.inr q') q
  have hin : ¬ t_X12_in gm am (nI j) 0 2 = 0 := by rw [show t_X12_in gm am (nI j) 0 2 = 1 from in_1 (lo := 0) (hi := 2) (by omega) q2 (by decide)]; decide
  have key : ∃ x : Nat, f_X11_ofRelation g a (nI r) (nI j) = some (.inr (nI x)) ∧ f_X12_ofRelation_27 am gm (nI r) (nI j) 0 = some (nI x, upd gm 8 0) := by
    unfold f_X11_ofRelation f_X12_ofRelation_27
    rw [if_neg hth, if_pos (le00 (by decide)), plOf (by omega) r1, tuOf (by omega) r3, bc9 htu, ck_t (inB_t (by omega) (by decide)), ck_t (inB_t (by omega) (by decide)), ck_t (inB_t (by omega) (by decide)), nI_clamp (by omega), r2, r4, cntM (by omega), Option.bind_some]
    have h : j = 0 ∨ j = 1 ∨ j = 2 := by omega
    rcases h with rfl | rfl | rfl
    · refine ⟨pl r, ?_, ?_⟩
      · rw [if_pos (show nI 0 = 0 from rfl)]
      · rw [if_pos (show nI 0 = 0 from rfl)]
    · refine ⟨tu r, ?_, ?_⟩
      · rw [if_neg (show ¬ nI 1 = 0 by decide), if_pos (show nI 1 = 1 from rfl)]
      · rw [if_neg (show ¬ nI 1 = 0 by decide), if_pos (show nI 1 = 1 from rfl)]
    · refine ⟨pc (tu r) 31, ?_, ?_⟩
      · rw [if_neg (show ¬ nI 2 = 0 by decide), if_neg (show ¬ nI 2 = 1 by decide), if_pos (show nI 2 = 2 from rfl)]
      · rw [if_neg (show ¬ nI 2 = 0 by decide), if_neg (show ¬ nI 2 = 1 by decide)]
  obtain ⟨x, k1, k2⟩ := key
  exact Or.inl ⟨nI x, (nI x, upd gm 8 0), k1, em.trans ((if_neg hin).trans k2), thr_8, rfl, h8 _⟩
