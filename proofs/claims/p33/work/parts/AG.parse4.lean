/-! What is typed, read: one atom. -/
theorem plx_r {pl : Nat → Nat} {r : Nat} (h : r < 8) : plx pl r = pl r := if_neg (by omega)
theorem SmMA {gm : xG} {am am' : xA} (h : Sm [] [7, 8] gm am gm am') : SmM gm am gm am' := SmM_of (P := []) (Q := [7, 8]) h
theorem SmPA {g g' : xG} {a a' : xA} (h : Sm P1 Q1 g a g' a') : Sm PX QX g a g' a' := Sm_mo h (by decide) (by decide)
theorem atV {d R T C r : Nat} {pl tu ch cr : Nat → Nat} {cv : Nat → Nat → Nat} {gm : xG} (hr : r < R) (hC : C ≤ 14) (hm5 : gm 5 = nI C) : ∀ (w i q n n' : Nat) (x : Nat → Nat) (g : xG) (a am : xA), i + w + 1 = pl r → q ≤ T → T < q + n → w + 1 < n' → PZ d R T pl tu ch g a gm am → g 8 = nI 4 → g 9 = nI r → g 10 = nI i → IZ d C pl tu cr cv g a → (∀ j, j < i → a 23 j = nI (x j) ∧ x j < 6) → (∀ j, j < i → am 8 (3 * C + j) = nI (x j)) →
    (∃ (q' : Nat) (g' : xG) (a' am' : xA), q' ≤ T ∧ f_X1_read_21 n g a (nI q) = some (nI q', g', a') ∧ f_X12_readsAtom_153 gm n' am (nI (3 * C)) (nI r) (nI q) (nI i) = some (100 + nI q', am') ∧ Sm P1 Q1 g a g' a' ∧ Sm [] [7, 8] gm am gm am') ∨
    (∃ (q' m : Nat) (x' : Nat → Nat) (g' : xG) (a' am' : xA), q + 2 ≤ q' ∧ q' ≤ T ∧ T < q' + m ∧ f_X1_read_21 n g a (nI q) = f_X1_read_21 m g' a' (nI q') ∧ f_X12_readsAtom_153 gm n' am (nI (3 * C)) (nI r) (nI q) (nI i) = some (nI q', am') ∧ Sm P1 Q1 g a g' a' ∧ Sm [] [7, 8] gm am gm am' ∧ g' 8 = nI 7 ∧ IZ d (C + 1) pl tu (nup cr C r) (fun c => if c = C then x' else cv c) g' a' ∧ am' 7 = upd (am 7) C (nI r) ∧ (∀ i, i < 3 * C → am' 8 i = am 8 i) ∧ ∀ j, j < pl r → am' 8 (3 * C + j) = nI (x' j)) := by
  intro w
  induction w with
  | zero =>
    intro i q n n' x g a am hi hq hn hn' hP h8 h9 h10 hI hx hxm
    have hR := hP.2.1
    have hT := hP.2.2.1
    obtain ⟨r5, r6, rp, rp5, r7⟩ := hP.2.2.2.2.2.2.2.2.2.2.1 r (Or.inl hr)
    rw [plx_r (by omega)] at rp rp5
    have hd2 := hP.1
    have r1 := hP.2.2.2.2.2.2.2.2.2.2.2 r hr
    obtain ⟨n', rfl⟩ := pos_of hn'
    obtain ⟨n', rfl⟩ := pos_of (show 0 < n' by omega)
    rw [e_X12_readsAtom_153, ck_t (inB_t (by omega) (by decide)), nI_clamp (by omega), r1, if_neg (nI_ge (by omega) (by omega))]
    rcases rd_var hP hq hn h8 h9 h10 (Or.inl hr) (by rw [plx_r (by omega)]; omega) (by omega) hI hx with ⟨v1, v2⟩ | ⟨hqT, y, m, g1, a1, y6, hm, v1, v2, v3, v4, v5, v6, v7, v8⟩
    · rw [v1, v2, Option.bind_some, if_pos rfl]
      exact Or.inl ⟨q, g, a, am, hq, rfl, rfl, Sm_rfl, Sm_rfl⟩
    · rw [v1, v2, v4, Option.bind_some, if_neg n10, Option.bind_some, nI_add, ck_t (inB_t (by omega) (by decide)), nI_clamp (by omega), v3, nI_1]
      have sM1 : Sm [] [7, 8] gm am gm (upA am 8 (upd (am 8) (3 * C + i) (nI y))) := Sm_A Sm_rfl (by decide)
      have hP1 := PZ_fr hP (SmPA v5) (SmMA sM1)
      obtain ⟨z8, zI⟩ := v8 (by rw [plx_r (by omega)]; omega)
      rw [if_neg (by omega)] at z8
      rw [sg_A hP1 (by omega), Option.bind_some, ck_t (inB_t (by omega) (by decide)), show (upA am 8 (upd (am 8) (3 * C + i) (nI y))) 1 r = nI (pl r) from r1, ← hi, nI_pred, if_pos (nI_le (by omega) (by omega))]
      unfold f_X12_readsAtom_226
      rcases rd_ju hP1 (p := q + 1) (n := m) (x := 41) (y := 7) (by omega) hm (Or.inr (Or.inr (Or.inr ⟨rfl, rfl, rfl⟩))) z8 with ⟨j1, j2, m', j3, j4⟩ | ⟨j1, g', j2, j3⟩
      · rw [j1, if_pos (show nI 41 = 41 from rfl), j4, e_X12_readsAtom_153, ck_t (inB_t (by omega) (by decide)), nI_clamp (by omega), show (upA am 8 (upd (am 8) (3 * C + i) (nI y))) 1 r = nI (pl r) from r1, nI_1, nI_1, if_pos (nI_le (by omega) (by omega)), hm5, ck_t (inB_t (by omega) (by decide)), nI_clamp (by omega)]
        refine Or.inr ⟨q + 1 + 1, m', nup x i y, _, _, _, by omega, by omega, by omega, rfl, rfl, Sm_tr v5 (Sm_G Sm_rfl (by decide)), Sm_tr sM1 (Sm_A Sm_rfl (by decide)), rfl, IZ_fr zI rfl rfl rfl rfl rfl rfl rfl, rfl, fun k hk => ?_, fun j hj => ?_⟩
        · show (upd (am 8) (3 * C + i) (nI y)) k = _
          rw [upd_n _ _ (by omega)]
        · show (upd (am 8) (3 * C + i) (nI y)) (3 * C + j) = _
          by_cases z : j = i
          · rw [z, upd_s, nup_s]
          · rw [upd_n _ _ (by omega), nup_n _ _ z]
            exact hxm j (by omega)
      · rw [if_neg (show ¬ nI (sgT T ch (q + 1)) = 41 from fun e => j1 ((nI_eq (b := 41) (by have := sgT_lt hP (q + 1); omega) (by decide)).mp e)), j2]
        exact Or.inl ⟨q + 1, g', a1, _, by omega, rfl, rfl, Sm_tr v5 j3, sM1⟩
  | succ w ih =>
    intro i q n n' x g a am hi hq hn hn' hP h8 h9 h10 hI hx hxm
    have hR := hP.2.1
    have hT := hP.2.2.1
    obtain ⟨r5, r6, rp, rp5, r7⟩ := hP.2.2.2.2.2.2.2.2.2.2.1 r (Or.inl hr)
    rw [plx_r (by omega)] at rp rp5
    have hd2 := hP.1
    have r1 := hP.2.2.2.2.2.2.2.2.2.2.2 r hr
    obtain ⟨n', rfl⟩ := pos_of hn'
    rw [e_X12_readsAtom_153, ck_t (inB_t (by omega) (by decide)), nI_clamp (by omega), r1, if_neg (nI_ge (by omega) (by omega))]
    rcases rd_var hP hq hn h8 h9 h10 (Or.inl hr) (by rw [plx_r (by omega)]; omega) (by omega) hI hx with ⟨v1, v2⟩ | ⟨hqT, y, m, g1, a1, y6, hm, v1, v2, v3, v4, v5, v6, v7, v8⟩
    · rw [v1, v2, Option.bind_some, if_pos rfl]
      exact Or.inl ⟨q, g, a, am, hq, rfl, rfl, Sm_rfl, Sm_rfl⟩
    · rw [v1, v2, v4, Option.bind_some, if_neg n10, Option.bind_some, nI_add, ck_t (inB_t (by omega) (by decide)), nI_clamp (by omega), v3, nI_1]
      have sM1 : Sm [] [7, 8] gm am gm (upA am 8 (upd (am 8) (3 * C + i) (nI y))) := Sm_A Sm_rfl (by decide)
      have hP1 := PZ_fr hP (SmPA v5) (SmMA sM1)
      obtain ⟨z8, z9, z10, zI, zx⟩ := v7 (by rw [plx_r (by omega)]; omega)
      rw [sg_A hP1 (by omega), Option.bind_some, ck_t (inB_t (by omega) (by decide)), show (upA am 8 (upd (am 8) (3 * C + i) (nI y))) 1 r = nI (pl r) from r1, ← hi, nI_pred, if_neg (nI_ge (by omega) (by omega))]
      unfold f_X12_readsAtom_226
      rcases rd_ju hP1 (p := q + 1) (n := m) (x := 44) (y := 4) (by omega) hm (Or.inr (Or.inr (Or.inl ⟨rfl, rfl, rfl⟩))) z8 with ⟨j1, j2, m', j3, j4⟩ | ⟨j1, g', j2, j3⟩
      · rw [j1, if_pos (show nI 44 = 44 from rfl), j4, nI_1, nI_1]
        have s2 : Sm P1 Q1 g a (upd g1 8 (nI 4)) a1 := Sm_tr v5 (Sm_G Sm_rfl (by decide))
        rcases ih (i + 1) (q + 1 + 1) m' n' (nup x i y) (upd g1 8 (nI 4)) a1 (upA am 8 (upd (am 8) (3 * C + i) (nI y))) (by omega) (by omega) (by omega) (by omega) (PZ_fr hP (SmPA s2) (SmMA sM1)) rfl z9 z10 (IZ_fr zI rfl rfl rfl rfl rfl rfl rfl) zx (fun j hj => by
          show (upd (am 8) (3 * C + i) (nI y)) (3 * C + j) = _
          by_cases z : j = i
          · rw [z, upd_s, nup_s]
          · rw [upd_n _ _ (by omega), nup_n _ _ z]
            exact hxm j (by omega)) with ⟨q', g', a', am', w1, w2, w3, w4, w5⟩ | ⟨q', m2, x', g', a', am', w0, w1, w2, w3, w4, w5, w6, w7, w8, w9, w10, w11⟩
        · exact Or.inl ⟨q', g', a', am', w1, w2, w3, Sm_tr s2 w4, Sm_tr sM1 w5⟩
        · refine Or.inr ⟨q', m2, x', g', a', am', by omega, w1, w2, w3, w4, Sm_tr s2 w5, Sm_tr sM1 w6, w7, w8, w9, fun k hk => ?_, by rw [hi]; exact w11⟩
          rw [w10 k hk]
          show (upd (am 8) (3 * C + i) (nI y)) k = _
          rw [upd_n _ _ (by omega)]
      · rw [if_neg (show ¬ nI (sgT T ch (q + 1)) = 44 from fun e => j1 ((nI_eq (b := 44) (by have := sgT_lt hP (q + 1); omega) (by decide)).mp e)), j2]
        exact Or.inl ⟨q + 1, g', a1, _, by omega, rfl, rfl, Sm_tr v5 j3, sM1⟩
