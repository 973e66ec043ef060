/-! type, both sides. -/
theorem ob1_type : ob_type Cpl := by
  intro g a gm am v v3 h
  have h8 : ∀ v, Cpl g a (upd gm 8 v) am := fun v => Cpl_8 h
  obtain ⟨d, R, K, T, V, C, pl, tu, ar, ch, cr, an, cv, hB, h0, hR, hK, hT, hI⟩ := h
  obtain ⟨t1, t2, t3, t4⟩ := id hT
  have bad : ∀ (s : Nat) (x3 : Int32), s ≠ 0 → s < 4 → f_X12_type_68 (upd gm 8 (nI s)) am v x3 = some (0, upd gm 8 (nI s), am) := fun s x3 hs h4 => by
    unfold f_X12_type_68
    rw [if_neg (show ¬ (upd gm 8 (nI s)) 8 ≤ 0 by rw [upd_s]; exact nI_nle (by omega) (by omega))]
    unfold f_X12_type_99
    rw [upd_s gm 8 (nI s), updd, upd_s, if_neg (nI_nle (by omega) (by omega))]
  by_cases q : v3 < nI 1 ∨ nI 8 < v3
  · refine Or.inr (Or.inl ⟨(1, g, a), (0, upd gm 8 1, am), ?_, rfl, ?_, thr_8, h8 _⟩)
    · unfold f_X11_type
      rcases out_ (by omega) (by omega) q with q' | ⟨q3, q4, _⟩
      · rw [if_pos (show v3 < 1 from q')]
        rfl
      · rw [if_neg (show ¬ v3 < 1 from q3), if_neg (show ¬ v3 ≤ 8 from q4)]
        rfl
    · unfold f_X12_type
      rw [if_pos (show t_X12_in gm am v3 1 8 = 0 from in_0 q)]
      obtain ⟨n, hn⟩ : ∃ n, fu = n + 1 := pos_of (fu_gt (k := 0) (by decide))
      rw [hn, e_X12_type_22]
      by_cases c : v3 ≤ 0
      · rw [if_pos c]
        exact bad 1 v3 (by decide) (by decide)
      · rw [if_neg c, if_neg (show ¬ (upd gm 8 1) 8 = 0 by rw [upd_s]; decide)]
        exact bad 1 v3 (by decide) (by decide)
  rcases tri v3 (lo := 1) (hi := 8) (by omega) (by decide) with q' | q' | ⟨N, q1, q2, rfl⟩
  · exact absurd (Or.inl q') q
  · exact absurd (Or.inr q') q
  have hin : ¬ t_X12_in gm am (nI N) 1 8 = 0 := by
    rw [show t_X12_in gm am (nI N) 1 8 = 1 from in_1 (lo := 1) (hi := 8) q1 q2 (by omega)]
    decide
  obtain ⟨s, hs⟩ := signs v
  have eX : f_X11_type g a v (nI N) = f_X11_type_25 fu g a v (nI N) 0 := by
    unfold f_X11_type
    rw [if_neg (show ¬ nI N < 1 from nI_nlt (b := 1) q1 (by omega)), if_pos (show nI N ≤ 8 from nI_le (b := 8) q2 (by decide))]
  have eM : f_X12_type gm am v (nI N) = f_X12_type_22 fu (upd gm 8 0) am v (nI N) 0 := by
    unfold f_X12_type
    rw [if_neg hin]
  obtain ⟨m1, m2⟩ := ty22 (g := gm) (a := am) q2 hs N 0 fu (by omega) (fu_gt (by omega))
  rcases ty25 (g := g) (a := a) q2 hs N 0 fu (by omega) (fu_gt (by omega)) with ⟨⟨j, j1, j2, j3⟩, k⟩ | ⟨k1, k2⟩
  · refine Or.inr (Or.inl ⟨(1, g, a), (0, upd gm 8 1, am), eX.trans k, rfl, ?_, thr_8, h8 _⟩)
    refine eM.trans ((m1 ⟨j, j1, j2, ?_⟩).trans (bad 1 _ (by decide) (by decide)))
    rcases sgK (g := g) (a := a) (gm := gm) (am := am) (hs j (by omega)).1 with ⟨w, _, _⟩ | ⟨_, w⟩
    · rw [j3] at w
      exact absurd w (by decide)
    · exact w
  have hk1 : ∀ j, j < N → sgn (s j) ∧ t_X12_isSign gm am (nI (s j)) = 1 := fun j hj => by
    rcases sgK (g := g) (a := a) (gm := gm) (am := am) (hs j (by omega)).1 with ⟨_, w1, w2⟩ | ⟨w, _⟩
    · exact ⟨w2, w1⟩
    · have := k1 j (Nat.zero_le _) hj
      rw [w] at this
      exact absurd this (by decide)
  have eM2 : f_X12_type gm am v (nI N) = f_X12_type_68 (upd gm 8 0) am v (nI N) := eM.trans (m2 (fun j _ hj => (hk1 j hj).2))
  have g6 : g 6 + nI N = nI (T + N) := by rw [t2, nI_add]
  have m6 : (upd gm 8 0) 3 + nI N = nI (T + N) := by rw [upd_n _ _ (by decide), t3, nI_add]
  by_cases c : T + N ≤ 60
  · obtain ⟨f, f1, f2, f3⟩ := ty88 q2 hs N 0 fu g a T (by omega) (fu_gt (by omega)) t2 c
    obtain ⟨fm, w1, w2, w3⟩ := ty114 q2 hs N 0 fu (upd gm 8 0) am T (by omega) (fu_gt (by omega)) (by rw [upd_n _ _ (by decide), t3]) c
    refine Or.inl ⟨(nI (T + N), upd g 6 (nI (T + N)), upA a 20 f), (nI (T + N), upd (upd gm 8 0) 3 (nI (T + N)), upA am 5 fm), ?_, ?_, ?_, rfl, ?_⟩
    · refine eX.trans (k2.trans ?_)
      rw [if_pos (by rw [g6]; exact nI_le (b := 60) c (by decide))]
      exact f1
    · refine eM2.trans ?_
      unfold f_X12_type_68
      rw [if_pos (show (upd gm 8 0) 8 ≤ 0 by rw [upd_s]; decide), if_pos (by rw [m6]; exact nI_le (b := 60) c (by decide))]
      unfold f_X12_type_99
      rw [updd, if_pos (show (upd gm 8 0) 8 ≤ 0 by rw [upd_s]; decide)]
      exact w1
    · show (upd (upd gm 8 0) 3 (nI (T + N))) 8 = 0
      rw [upd_n _ _ (by decide), upd_s]
    · have x1 : ∀ i, i ≠ 6 → (upd g 6 (nI (T + N))) i = g i := fun i h => upd_n _ _ h
      have x2 : ∀ i, i ≠ 20 → (upA a 20 f) i = a i := fun i h => upA_n _ _ h
      have x3 : ∀ i, i ≠ 3 → i ≠ 8 → (upd (upd gm 8 0) 3 (nI (T + N))) i = gm i := fun i h h' => (upd_n _ _ h).trans (upd_n _ _ h')
      have x4 : ∀ i, i ≠ 5 → (upA am 5 fm) i = am i := fun i h => upA_n _ _ h
      refine ⟨d, R, K, T + N, V, C, pl, tu, ar, fun i => if i < T then ch i else s (i - T), cr, an, cv, ?_, ?_, ?_, ?_, ?_, ?_⟩
      · exact Bas_fr hB (x1 0 (by decide)) (x2 2 (by decide)) (x2 3 (by decide))
      · show (upd (upd gm 8 0) 3 (nI (T + N))) 0 = nI d
        rw [upd_n _ _ (by decide), upd_n _ _ (by decide), h0]
      · exact CR_fr hR (x1 1 (by decide)) (x3 1 (by decide) (by decide)) (x2 5 (by decide)) (x2 6 (by decide)) (x4 1 (by decide)) (x4 2 (by decide))
      · exact CK_fr hK (x1 4 (by decide)) (x3 2 (by decide) (by decide)) (fun k hk => x1 (15 + k) (by omega)) (fun k hk => x2 (47 + k) (by omega)) (x4 3 (by decide)) (x4 4 (by decide))
      · refine ⟨c, upd_s g 6 _, upd_s (upd gm 8 0) 3 _, fun i hi => ?_⟩
        show (upA a 20 f) 20 i = _ ∧ (upA am 5 fm) 5 i = _ ∧ _
        rw [upA_s, upA_s]
        by_cases hiT : i < T
        · obtain ⟨z1, z2, z3⟩ := t4 i hiT
          dsimp only
          rw [if_pos hiT, f2 i hiT, w2 i hiT]
          exact ⟨z1, z2, z3⟩
        · obtain ⟨j, rfl⟩ : ∃ j, i = T + j := ⟨i - T, by omega⟩
          dsimp only
          rw [if_neg hiT, f3 j (by omega), w3 j (by omega), Nat.zero_add, show T + j - T = j by omega]
          exact ⟨rfl, rfl, (hk1 j (by omega)).1⟩
      · exact CI_fr hI (Nat.le_refl _) (fun _ _ => rfl) (x1 14 (by decide)) (x1 13 (by decide)) (x3 6 (by decide) (by decide)) (x3 7 (by decide) (by decide)) (x2 32 (by decide)) (x2 33 (by decide)) (x2 34 (by decide)) (x2 35 (by decide)) (x4 9 (by decide)) (x4 10 (by decide))
  · refine Or.inr (Or.inr ⟨(2, g, a), (0, upd gm 8 2, am), ?_, rfl, ?_, thr_8, h8 _⟩)
    · refine eX.trans (k2.trans ?_)
      rw [if_neg (by rw [g6]; exact nI_ge (a := 60) (by omega) (by omega))]
    · refine eM2.trans ?_
      unfold f_X12_type_68
      rw [if_pos (show (upd gm 8 0) 8 ≤ 0 by rw [upd_s]; decide), if_neg (by rw [m6]; exact nI_ge (a := 60) (by omega) (by omega))]
      unfold f_X12_type_99
      rw [updd, if_neg (show ¬ (upd gm 8 2) 8 ≤ 0 by rw [upd_s]; decide)]
