/-! define. -/
theorem hp47 : ∀ k, k < 6 → ¬ (47 + k) ∈ ([29, 30] : List Nat) := by decide
theorem CK_sm {d K : Nat} {ar : Nat → Nat} {an : Nat → Nat → Nat} {g g' : xG} {a a' : xA} {gm gm' : xG} {am am' : xA} (hd : d = 2 ∨ d = 3) (hK : CK d K ar an g a gm am) (s : Sm PX QX g a g' a') (sm : SmM gm am gm' am') : CK d K ar an g' a' gm' am' := by
  refine ⟨hK.1, (s.1 4 (by decide)).trans hK.2.1, (sm.1 2 (by decide)).trans hK.2.2.1, fun k hk => ?_⟩
  obtain ⟨q1, q2, q3⟩ := hK.2.2.2 k hk
  have hk6 : k < 6 := Nat.lt_of_lt_of_le hk hK.1
  have hw27 := pw3 hd q1.2.2.2.1
  have hp : ∀ k, k < 6 → ¬ (15 + k) ∈ PX ∧ ¬ (47 + k) ∈ QX := by decide
  exact ⟨⟨q1.1, (s.1 _ (hp k hk6).1).trans q1.2.1, q1.2.2.1, q1.2.2.2.1, fun p hp1 => ⟨(congrFun (s.2 _ (hp k hk6).2) p).trans (q1.2.2.2.2 p hp1).1, (q1.2.2.2.2 p hp1).2⟩⟩, ⟨q2.1, q2.2.1, q2.2.2.1, fun p hp1 => ⟨(sm.2.2 _ (by omega)).trans (q2.2.2.2 p hp1).1, (q2.2.2.2 p hp1).2⟩⟩, (congrFun (sm.2.1 3 (by decide) (by decide)) k).trans q3⟩
theorem ob1_define : ob_define Cpl := by
  intro g a gm am h
  have h' := h
  obtain ⟨d, R, K, T, V, C0, pl, tu, ar, ch, cr0, an, cv0, hB, h0, hR, hK, hT, hI⟩ := h
  have hP := PZ_of hB h0 hR hT
  have hd2 := hB.1
  have hT60 := hT.1
  have m27 : ∀ (s : Nat) (gm' : xG) (am' : xA), s ≠ 0 → s < 4 → f_X12_define_27 gm' am' (nI s) = some (0, upd gm' 8 (nI s), am') := fun s gm' am' hs h4 => by
    unfold f_X12_define_27
    rw [upd_s, if_neg (nI_nle (by omega) (by omega))]
  unfold f_X11_define f_X12_define
  rcases readZ hP with ⟨q, g', a', gm', am', w1, w2, w3, w4, w5⟩ | ⟨k, hd, C, cr, cv, g', a', gm', am', w2, w3, w4, w5, k1, hH, C1, C15, hA⟩
  · have hne : ¬ nI q = -1 := fun e => nI_pos (n := q) (by omega) (by rw [e]; decide)
    rw [w2, w3, Option.bind_some, Option.bind_some, if_neg hne, if_neg hne]
    exact Or.inr (Or.inl ⟨_, _, rfl, rfl, m27 1 gm' am' (by decide) (by decide), thr_8, Cpl_fr h' w4 (SmM_tr w5 SmM_8)⟩)
  · rw [w2, w3, Option.bind_some, Option.bind_some, if_pos rfl, if_pos rfl]
    dsimp only
    have e1 : g' 1 = nI R := (w4.1 1 (by decide)).trans hR.2.1
    have em1 : gm' 1 = nI R := (w5.1 1 (by decide)).trans hR.2.2.1
    have hR8 := hR.1
    by_cases z : R = 8
    · rw [if_neg (show ¬ g' 1 < 8 by rw [e1, z]; decide), if_pos (show gm' 1 = 8 by rw [em1, z]; rfl)]
      exact Or.inr (Or.inr ⟨_, _, rfl, rfl, m27 2 gm' am' (by decide) (by decide), thr_8, Cpl_fr h' w4 (SmM_tr w5 SmM_8)⟩)
    · have hRlt : R < 8 := by omega
      have hB1 := Bas_sm hB w4
      have hR1 := CR_fr hR (w4.1 1 (by decide)) (w5.1 1 (by decide)) (w4.2 5 (by decide)) (w4.2 6 (by decide)) (w5.2.1 1 (by decide) (by decide)) (w5.2.1 2 (by decide) (by decide))
      have h01 : gm' 0 = nI d := (w5.1 0 (by decide)).trans h0
      obtain ⟨hk, h7, h4, hh, _⟩ := id hH
      obtain ⟨X, a2, t1, t2, t3, t4⟩ := th4 (C := C) (pl := pl) (tu := tu) (cr := cr) (cv := cv) (hd := hd) hk h7 (fun i hi => (hh i hi).2.2) (d ^ k) 0 fu 0 a' (by omega) (fu_gt (by have := pw9 hd2 hk; omega)) (Nat.pow_pos (by decide)) (fun u => ⟨fun q => (by rw [Nat.zero_testBit] at q; cases q), fun q => by omega⟩) hB1 hA.1 (fun i hi => (hh i hi).1)
      have hM := HMZ_of hR1 h01 C15 hA
      have hM8 : HMZ d R C pl tu cr cv (upd gm' 8 0) am' := by
        unfold HMZ at *
        rw [upd_n gm' (k := 8) (j := 0) 0 (by decide), upd_n gm' (k := 8) (j := 5) 0 (by decide)]
        exact hM
      obtain ⟨Y, y1, y2⟩ := df43 hd2 hM8 k1 hk ((upd_n gm' 0 (by decide)).trans h4) (fun i hi => (hh i hi).2) ((upd_n gm' 0 (by decide)).trans hR1.2.2.1) hRlt (d ^ 6) 0 fu 0 (by omega) (fu_gt (by have := pw6 hd2 (Nat.le_refl 6); omega)) (fun t => ⟨fun q => (by rw [Nat.zero_testBit] at q; cases q), fun ⟨c, hc, _⟩ => by omega⟩)
      have hXY : X = Y := set_ext fun t => by
        rw [t4 t, y2 t]
        refine ⟨fun q => q.2, fun q => ⟨?_, q⟩⟩
        obtain ⟨c, _, _, q3⟩ := q
        rw [← q3]
        exact nm_lt k (fun i _ => dg_lt (by omega) _ _)
      subst hXY
      rw [if_pos (show g' 1 < 8 by rw [e1]; exact nI_lt (b := 8) hRlt (by decide)), if_neg (show ¬ gm' 1 = 8 by rw [em1]; exact fun e => z ((nI_eqs (y := 8) (by omega) (by decide)).mp e)), show f_X1_tuplesOfHead g' a' = some (nI X, a2) from t1, Option.bind_some, h7]
      unfold f_X10_add
      rw [e1, Option.bind_some, put_in (by omega) (by decide), put_in (by omega) (by decide), nI_1, upA_n a2 (r := 5) (j := 6) _ (by decide)]
      have s2 := Sm_tr w4 (Sm_mo t2 (P' := PX) (Q' := QX) (by decide) (by decide))
      have x1 : ∀ i, i ≠ 1 → i ≠ 6 → (upd (upd g' 1 (nI (R + 1))) 6 0) i = g' i := fun i h h' => (upd_n _ _ h').trans (upd_n _ _ h)
      have x2 : ∀ i, i ≠ 5 → i ≠ 6 → (upA (upA a2 5 (upd (a2 5) R (nI k))) 6 (upd (a2 6) R (nI X))) i = a2 i := fun i h h' => (upA_n _ _ h').trans (upA_n _ _ h)
      have x3 : ∀ i, i ≠ 3 → i ≠ 1 → i ≠ 8 → (upd (upd (upd gm' 8 0) 3 0) 1 (nI (R + 1))) i = gm' i := fun i h h' h'' => (upd_n _ _ h').trans ((upd_n _ _ h).trans (upd_n _ _ h''))
      have x4 : ∀ i, i ≠ 1 → i ≠ 2 → (upA (upA am' 1 (upd (am' 1) R (nI k))) 2 (upd (am' 2) R (nI X))) i = am' i := fun i h h' => (upA_n _ _ h').trans (upA_n _ _ h)
      refine Or.inl ⟨_, (nI R, upd (upd (upd gm' 8 0) 3 0) 1 (nI (R + 1)), upA (upA am' 1 (upd (am' 1) R (nI k))) 2 (upd (am' 2) R (nI X))), rfl, ?_, ?_, rfl, ?_⟩
      · unfold f_X12_define_27
        rw [if_pos (show (upd gm' 8 0) 8 ≤ 0 by rw [upd_s]; decide)]
        exact y1
      · show (upd (upd (upd gm' 8 0) 3 0) 1 (nI (R + 1))) 8 = 0
        rw [upd_n _ _ (by decide), upd_n _ _ (by decide), upd_s]
      · show Cpl (upd (upd g' 1 (nI (R + 1))) 6 0) (upA (upA a2 5 (upd (a2 5) R (nI k))) 6 (upd (a2 6) R (nI X))) (upd (upd (upd gm' 8 0) 3 0) 1 (nI (R + 1))) (upA (upA am' 1 (upd (am' 1) R (nI k))) 2 (upd (am' 2) R (nI X)))
        refine ⟨d, R + 1, K, 0, V, C0, nup pl R k, nup tu R X, ar, ch, cr0, an, cv0, ?_, ?_, ?_, ?_, ?_, ?_⟩
        · exact Bas_fr hB ((x1 0 (by decide) (by decide)).trans (s2.1 0 (by decide))) ((x2 2 (by decide) (by decide)).trans (s2.2 2 (by decide))) ((x2 3 (by decide) (by decide)).trans (s2.2 3 (by decide)))
        · rw [x3 0 (by decide) (by decide) (by decide), h01]
        · have a5 : a2 5 = a' 5 := t2.2 5 (by decide)
          have a6 : a2 6 = a' 6 := t2.2 6 (by decide)
          refine ⟨by omega, ?_, upd_s .., ?_, ?_, fun r hr => ?_⟩
          · rw [upd_n _ _ (by decide), upd_s]
          · rw [upA_n _ _ (by decide), upA_s, upd_n _ _ (by omega), a5]
            exact hR1.2.2.2.1
          · rw [upA_s, upd_n _ _ (by omega), a6]
            exact hR1.2.2.2.2.1
          · have q5 : (upA (upA a2 5 (upd (a2 5) R (nI k))) 6 (upd (a2 6) R (nI X))) 5 = upd (a' 5) R (nI k) := by rw [upA_n _ _ (by decide), upA_s, a5]
            have q6 : (upA (upA a2 5 (upd (a2 5) R (nI k))) 6 (upd (a2 6) R (nI X))) 6 = upd (a' 6) R (nI X) := by rw [upA_s, a6]
            have q1 : (upA (upA am' 1 (upd (am' 1) R (nI k))) 2 (upd (am' 2) R (nI X))) 1 = upd (am' 1) R (nI k) := by rw [upA_n _ _ (by decide), upA_s]
            have q2 : (upA (upA am' 1 (upd (am' 1) R (nI k))) 2 (upd (am' 2) R (nI X))) 2 = upd (am' 2) R (nI X) := by rw [upA_s]
            rw [q5, q6, q1, q2]
            by_cases hrR : r = R
            · rw [hrR, upd_s, upd_s, upd_s, upd_s, nup_s, nup_s]
              exact ⟨rfl, rfl, rfl, rfl, k1, hk, t3⟩
            · rw [upd_n _ _ hrR, upd_n _ _ hrR, upd_n _ _ hrR, upd_n _ _ hrR, nup_n _ _ hrR, nup_n _ _ hrR]
              exact hR1.2.2.2.2.2 r (by omega)
        · exact CK_fr (CK_sm hd2 hK w4 w5) (x1 4 (by decide) (by decide)) (x3 2 (by decide) (by decide) (by decide)) (fun k hk => x1 (15 + k) (by omega) (by omega)) (fun k hk => (x2 (47 + k) (by omega) (by omega)).trans (t2.2 (47 + k) (hp47 k hk))) (x4 3 (by decide) (by decide)) (x4 4 (by decide) (by decide))
        · exact ⟨by decide, rfl, rfl, fun i hi => by omega⟩
        · exact CI_fr hI (by omega) (fun r hr => nup_n _ _ (by omega)) ((x1 14 (by decide) (by decide)).trans (s2.1 14 (by decide))) ((x1 13 (by decide) (by decide)).trans (s2.1 13 (by decide))) ((x3 6 (by decide) (by decide) (by decide)).trans (w5.1 6 (by decide))) ((x3 7 (by decide) (by decide) (by decide)).trans (w5.1 7 (by decide))) ((x2 32 (by decide) (by decide)).trans (s2.2 32 (by decide))) ((x2 33 (by decide) (by decide)).trans (s2.2 33 (by decide))) ((x2 34 (by decide) (by decide)).trans (s2.2 34 (by decide))) ((x2 35 (by decide) (by decide)).trans (s2.2 35 (by decide))) ((x4 9 (by decide) (by decide)).trans (w5.2.1 9 (by decide) (by decide))) ((x4 10 (by decide) (by decide)).trans (w5.2.1 10 (by decide) (by decide)))
