/-! constrain, closed. -/
theorem con_m {gm : xG} {am : xA} {v1 v2 v3 v4 b1 b2 b3 b4 : Int32} (e1 : f_X12_isRelation gm am v1 = some b1) (e2 : f_X12_isVariableOrNone gm am v2 = some b2) (e3 : f_X12_isVariableOrNone gm am v3 = some b3) (e4 : f_X12_isVariableOrNone gm am v4 = some b4) :
    f_X12_constrain gm am v1 v2 v3 v4 = if b3 = 0 ∨ b4 = 0 ∨ b1 = 0 ∨ b2 = 0 then some (0, upd gm 8 1, am) else f_X12_constrain_51 gm am v1 v2 v3 v4 0 := by
  have h51 : f_X12_constrain_51 gm am v1 v2 v3 v4 1 = some (0, upd gm 8 1, am) := by
    unfold f_X12_constrain_51
    rw [if_neg (by rw [upd_s]; decide)]
  have h22 : ∀ s : Int32, (b1 = 0 ∨ b2 = 0 ∨ s = 0) → f_X12_constrain_22 gm am v1 v2 v3 v4 s = some (0, upd gm 8 1, am) := fun s hs => by
    unfold f_X12_constrain_22
    rw [e1, Option.bind_some]
    by_cases c1 : b1 = 0
    · rw [if_pos c1, h51]
    · rw [if_neg c1, e2, Option.bind_some]
      by_cases c2 : b2 = 0
      · rw [if_pos c2, h51]
      · rw [if_neg c2, if_pos ((hs.resolve_left c1).resolve_left c2), h51]
  unfold f_X12_constrain
  rw [e3, Option.bind_some]
  by_cases c3 : b3 = 0
  · rw [if_pos c3, if_pos (Or.inl c3), h22 0 (Or.inr (Or.inr rfl))]
  · rw [if_neg c3, e4, Option.bind_some]
    by_cases c4 : b4 = 0
    · rw [if_pos c4, if_pos (Or.inr (Or.inl c4)), h22 0 (Or.inr (Or.inr rfl))]
    · rw [if_neg c4]
      by_cases c1 : b1 = 0
      · rw [if_pos (Or.inr (Or.inr (Or.inl c1))), h22 1 (Or.inl c1)]
      · by_cases c2 : b2 = 0
        · rw [if_pos (Or.inr (Or.inr (Or.inr c2))), h22 1 (Or.inr (Or.inl c2))]
        · rw [if_neg (by rintro (h | h | h | h) <;> contradiction)]
          unfold f_X12_constrain_22
          rw [e1, Option.bind_some, if_neg c1, e2, Option.bind_some, if_neg c2, if_neg (by decide)]
theorem ob1_constrain : ob_constrain Cpl := by
  intro g a gm am v1 v2 v3 v4 h
  have hC := h
  obtain ⟨d, R, K, T, V, C, pl, tu, ar, ch, cr, an, cv, hB, h0, hR, hK, hT, hI⟩ := h
  have hd := hB.1
  have hR8 := hR.1
  have hV := hI.2.1
  have hC16 := hI.2.2.1
  have hg14 : g 14 = nI V := hI.2.2.2.1
  have hm6 : gm 6 = nI V := hI.2.2.2.2.1
  have hg13 : g 13 = nI C := hI.2.2.2.2.2.1
  have hm7 : gm 7 = nI C := hI.2.2.2.2.2.2.1
  rcases ix3 v1 (R := R) (by omega) with ⟨q1, q2⟩ | ⟨r, hr, rfl⟩
  · have e1 := isRel_0 (a := am) hR.2.2.1 q2
    have x1 : f_X11_constrain g a v1 v2 v3 v4 = some (.inl (3, g, a)) := by
      unfold f_X11_constrain
      rw [if_pos (there_0 hR.2.1 q1)]
    refine Or.inr (Or.inl ⟨(3, g, a), (0, upd gm 8 1, am), x1, rfl, ?_, thr_8, Cpl_8 hC⟩)
    obtain ⟨b2, e2⟩ : ∃ b, f_X12_isVariableOrNone gm am v2 = some b := by
      rcases von (g := g) (a := a) (am := am) hV hg14 hm6 v2 with ⟨_, h⟩ | ⟨_, h, _⟩ <;> exact ⟨_, h⟩
    obtain ⟨b3, e3⟩ : ∃ b, f_X12_isVariableOrNone gm am v3 = some b := by
      rcases von (g := g) (a := a) (am := am) hV hg14 hm6 v3 with ⟨_, h⟩ | ⟨_, h, _⟩ <;> exact ⟨_, h⟩
    obtain ⟨b4, e4⟩ : ∃ b, f_X12_isVariableOrNone gm am v4 = some b := by
      rcases von (g := g) (a := a) (am := am) hV hg14 hm6 v4 with ⟨_, h⟩ | ⟨_, h, _⟩ <;> exact ⟨_, h⟩
    rw [con_m e1 e2 e3 e4, if_pos (Or.inr (Or.inr (Or.inl rfl)))]
  have e1 := isRel_1 (a := am) hR.2.2.1 hr (by omega)
  have hth : ¬ t_X10_isThere g a (nI r) = 0 := by rw [there_1 hR.2.1 hr (by omega)]; decide
  rcases von (g := g) (a := a) (am := am) hV hg14 hm6 v2 with ⟨x2, e2⟩ | ⟨x2, e2, y2⟩
  · obtain ⟨b3, e3⟩ : ∃ b, f_X12_isVariableOrNone gm am v3 = some b := by
      rcases von (g := g) (a := a) (am := am) hV hg14 hm6 v3 with ⟨_, h⟩ | ⟨_, h, _⟩ <;> exact ⟨_, h⟩
    obtain ⟨b4, e4⟩ : ∃ b, f_X12_isVariableOrNone gm am v4 = some b := by
      rcases von (g := g) (a := a) (am := am) hV hg14 hm6 v4 with ⟨_, h⟩ | ⟨_, h, _⟩ <;> exact ⟨_, h⟩
    refine Or.inr (Or.inl ⟨(3, g, a), (0, upd gm 8 1, am), ?_, rfl, ?_, thr_8, Cpl_8 hC⟩)
    · unfold f_X11_constrain
      rw [if_neg hth, if_pos x2]
      rfl
    · rw [con_m e1 e2 e3 e4, if_pos (Or.inr (Or.inr (Or.inr rfl)))]
  have n2 : ¬ t_X11_isVariableOrNone g a v2 = 0 := by rw [x2]; decide
  rcases von (g := g) (a := a) (am := am) hV hg14 hm6 v3 with ⟨x3, e3⟩ | ⟨x3, e3, y3⟩
  · obtain ⟨b4, e4⟩ : ∃ b, f_X12_isVariableOrNone gm am v4 = some b := by
      rcases von (g := g) (a := a) (am := am) hV hg14 hm6 v4 with ⟨_, h⟩ | ⟨_, h, _⟩ <;> exact ⟨_, h⟩
    refine Or.inr (Or.inl ⟨(3, g, a), (0, upd gm 8 1, am), ?_, rfl, ?_, thr_8, Cpl_8 hC⟩)
    · unfold f_X11_constrain
      rw [if_neg hth, if_neg n2, if_pos x3]
      rfl
    · rw [con_m e1 e2 e3 e4, if_pos (Or.inl rfl)]
  have n3 : ¬ t_X11_isVariableOrNone g a v3 = 0 := by rw [x3]; decide
  rcases von (g := g) (a := a) (am := am) hV hg14 hm6 v4 with ⟨x4, e4⟩ | ⟨x4, e4, y4⟩
  · refine Or.inr (Or.inl ⟨(3, g, a), (0, upd gm 8 1, am), ?_, rfl, ?_, thr_8, Cpl_8 hC⟩)
    · unfold f_X11_constrain
      rw [if_neg hth, if_neg n2, if_neg n3, if_pos x4]
      rfl
    · rw [con_m e1 e2 e3 e4, if_pos (Or.inr (Or.inl rfl))]
  have n4 : ¬ t_X11_isVariableOrNone g a v4 = 0 := by rw [x4]; decide
  obtain ⟨r1, r2, r3, r4, r5, r6, r7⟩ := hR.2.2.2.2.2 r hr
  have hpl : 1 ≤ pl r ∧ pl r ≤ 3 := ⟨r5, by omega⟩
  have em : f_X12_constrain gm am (nI r) v2 v3 v4 = f_X12_constrain_51 gm am (nI r) v2 v3 v4 0 := by rw [con_m e1 e2 e3 e4, if_neg (by decide)]
  rw [conM2 (pl := pl) (by omega) hC16 hm7 r2 hpl] at em
  have ex : f_X11_constrain g a (nI r) v2 v3 v4 = if v2 = -1 ∨ ((v3 = -1) ↔ 2 ≤ pl r) ∨ ((v4 = -1) ↔ 3 ≤ pl r) then some (.inl (1, g, a)) else if C = 16 then some (.inl (2, g, a)) else Option.bind (f_X2_add 1 g a (nI r) v2 v3 v4) (fun u13 => some (.inr ((u13.1 13), u13.1, u13.2))) := by
    unfold f_X11_constrain
    rw [if_neg hth, if_neg n2, if_neg n3, if_neg n4, plOf (by omega) r1]
    by_cases c2 : v2 = -1
    · rw [if_pos c2, if_pos (Or.inl c2)]
      rfl
    · rw [if_neg c2]
      exact conX2 hC16 hg13 hpl c2
  by_cases hfit : v2 = -1 ∨ ((v3 = -1) ↔ 2 ≤ pl r) ∨ ((v4 = -1) ↔ 3 ≤ pl r)
  · rw [if_pos hfit] at em ex
    rw [conM 2 (by decide) (by decide)] at em
    exact Or.inr (Or.inr (Or.inl ⟨(1, g, a), (0, upd (upd gm 8 0) 8 (nI 2), am), ex, rfl, em, thr_8, Cpl_8 (Cpl_8 hC)⟩))
  rw [if_neg hfit] at em ex
  by_cases hfull : C = 16
  · rw [if_pos hfull] at em ex
    rw [conM 3 (by decide) (by decide)] at em
    exact Or.inr (Or.inr (Or.inr ⟨(2, g, a), (0, upd (upd gm 8 0) 8 (nI 3), am), ex, rfl, em, thr_8, Cpl_8 (Cpl_8 hC)⟩))
  rw [if_neg hfull] at em ex
  have hCl : C < 16 := by omega
  obtain ⟨w2, hz2, ez2⟩ : ∃ x, x < V ∧ v2 = nI x := by
    rcases y2 with y2 | ⟨_, x, h1, h2⟩
    · exact absurd (Or.inl y2) hfit
    · exact ⟨x, h1, h2⟩
  obtain ⟨w3, hz3⟩ : ∃ x, 2 ≤ pl r → x < V ∧ v3 = nI x := by
    rcases y3 with y3 | ⟨_, x, h1, h2⟩
    · refine ⟨0, fun h => absurd (Or.inr (Or.inl ⟨fun _ => h, fun _ => y3⟩)) hfit⟩
    · exact ⟨x, fun _ => ⟨h1, h2⟩⟩
  obtain ⟨w4, hz4⟩ : ∃ x, 3 ≤ pl r → x < V ∧ v4 = nI x := by
    rcases y4 with y4 | ⟨_, x, h1, h2⟩
    · refine ⟨0, fun h => absurd (Or.inr (Or.inr ⟨fun _ => h, fun _ => y4⟩)) hfit⟩
    · exact ⟨x, fun _ => ⟨h1, h2⟩⟩
  obtain ⟨x, hx⟩ : ∃ x : Nat → Nat, ∀ p, p < pl r → tri3 v2 v3 v4 p = nI (x p) ∧ x p < V := ⟨fun p => if p = 0 then w2 else if p = 1 then w3 else w4, fun p hp => by
    have h3 : p = 0 ∨ p = 1 ∨ p = 2 := by omega
    rcases h3 with rfl | rfl | rfl
    · exact ⟨ez2, hz2⟩
    · exact ⟨(hz3 (by omega)).2, (hz3 (by omega)).1⟩
    · exact ⟨(hz4 (by omega)).2, (hz4 (by omega)).1⟩⟩
  obtain ⟨a', f34, b1, b2, b3, b4⟩ := addX (j := 1) (C := C) (r := r) (n0 := pl r) (x := x) (g := g) (a := a) (v2 := v2) (v3 := v3) (v4 := v4) (by decide) hCl (by omega) hpl.2 hg13 r1 (fun p hp => ⟨(hx p hp).1, by have := (hx p hp).2; omega⟩)
  have em2 : f_X12_constrain gm am (nI r) v2 v3 v4 = some (nI (C + 1), upd (upd (upd gm 8 0) 8 (nI 0)) 7 (nI (C + 1)), upA (upA am 9 (upd (am 9) C (nI r))) 10 (upd (upd (upd (am 10) (3 * C) v2) (3 * C + 1) v3) (3 * C + 2) v4)) := by
    rw [em]
    have h7 : upd (upd gm 8 0) 8 (nI 0) 7 = nI C := by rw [upd_n _ _ (by decide), upd_n _ _ (by decide), hm7]
    unfold f_X12_constrain_156
    rw [if_pos (by rw [upd_s]; decide), h7]
    simp only [z3, z1, z2, pk_mul, nI_add]
    rw [ck_t (inB_t (by omega) (by decide)), ck_t (inB_t (by omega) (by decide)), ck_t (inB_t (by omega) (by decide)), ck_t (inB_t (by omega) (by decide)), nI_clamp (by omega), nI_clamp (by omega), nI_clamp (by omega), nI_clamp (by omega), upd_s]
    simp (disch := decide) only [upA_n, upA_s, upA_2]
  have ex2 : f_X11_constrain g a (nI r) v2 v3 v4 = some (.inr (nI (C + 1), upd g 13 (nI (C + 1)), a')) := by
    rw [ex, b1, Option.bind_some]
    show some (Sum.inr (upd g 13 (nI (C + 1)) 13, _, _)) = _
    rw [upd_s]
  refine Or.inl ⟨(nI (C + 1), upd g 13 (nI (C + 1)), a'), (nI (C + 1), upd (upd (upd gm 8 0) 8 (nI 0)) 7 (nI (C + 1)), upA (upA am 9 (upd (am 9) C (nI r))) 10 (upd (upd (upd (am 10) (3 * C) v2) (3 * C + 1) v3) (3 * C + 2) v4)), ex2, em2, ?_, rfl, ?_⟩
  · show upd (upd (upd gm 8 0) 8 (nI 0)) 7 (nI (C + 1)) 8 = 0
    rw [upd_n _ _ (by decide), upd_s]
    rfl
  · have hg : ∀ i, i ≠ 13 → upd g 13 (nI (C + 1)) i = g i := fun i h1 => upd_n _ _ h1
    have hm : ∀ i, i ≠ 8 → i ≠ 7 → upd (upd (upd gm 8 0) 8 (nI 0)) 7 (nI (C + 1)) i = gm i := fun i h1 h2 => by rw [upd_n _ _ h2, upd_n _ _ h1, upd_n _ _ h1]
    have ha : ∀ i, i ≠ 32 → i ≠ 33 → i ≠ 34 → i ≠ 35 → a' i = a i := fun i h1 h2 h3 h4 => by rw [b2, upA_n _ _ h4, upA_n _ _ h3, upA_n _ _ h2, upA_n _ _ h1]
    have a32 : a' 32 = upd (a 32) C (nI r) := by rw [b2, upA_n _ _ (by decide), upA_n _ _ (by decide), upA_n _ _ (by decide)]; exact upA_s ..
    have a33 : a' 33 = upd (a 33) C (nI (pl r)) := by rw [b2, upA_n _ _ (by decide), upA_n _ _ (by decide)]; exact upA_s ..
    have a34 : a' 34 = f34 := by rw [b2, upA_n _ _ (by decide)]; exact upA_s ..
    have a35 : a' 35 = upd (a 35) C (nI (lowv x (pl r))) := by rw [b2]; exact upA_s ..
    have hb : ∀ i, i ≠ 9 → i ≠ 10 → upA (upA am 9 (upd (am 9) C (nI r))) 10 (upd (upd (upd (am 10) (3 * C) v2) (3 * C + 1) v3) (3 * C + 2) v4) i = am i := fun i h1 h2 => by rw [upA_n _ _ h2, upA_n _ _ h1]
    show Cpl (upd g 13 (nI (C + 1))) a' (upd (upd (upd gm 8 0) 8 (nI 0)) 7 (nI (C + 1))) (upA (upA am 9 (upd (am 9) C (nI r))) 10 (upd (upd (upd (am 10) (3 * C) v2) (3 * C + 1) v3) (3 * C + 2) v4))
    refine ⟨d, R, K, T, V, C + 1, pl, tu, ar, ch, fun c => if c = C then r else cr c, an, fun c => if c = C then x else cv c, Bas_fr hB (hg _ (by decide)) (ha _ (by decide) (by decide) (by decide) (by decide)) (ha _ (by decide) (by decide) (by decide) (by decide)), (hm _ (by decide) (by decide)).trans h0, CR_fr hR (hg _ (by decide)) (hm _ (by decide) (by decide)) (ha _ (by decide) (by decide) (by decide) (by decide)) (ha _ (by decide) (by decide) (by decide) (by decide)) (hb _ (by decide) (by decide)) (hb _ (by decide) (by decide)), CK_fr hK (hg _ (by decide)) (hm _ (by decide) (by decide)) (fun k hk => hg _ (by omega)) (fun k hk => ha _ (by omega) (by omega) (by omega) (by omega)) (hb _ (by decide) (by decide)) (hb _ (by decide) (by decide)), CT_fr hT (hg _ (by decide)) (hm _ (by decide) (by decide)) (ha _ (by decide) (by decide) (by decide) (by decide)) (hb _ (by decide) (by decide)), hI.1, hV, by omega, (hg _ (by decide)).trans hg14, (hm _ (by decide) (by decide)).trans hm6, upd_s .., upd_s .., fun c hc => ?_⟩
    dsimp only
    rw [a32, a33, a34, a35, upA_n _ _ (by decide), upA_s, upA_s]
    by_cases he : c = C
    · rw [if_pos he, if_pos he, he, upd_s, upd_s, upd_s, upd_s]
      refine ⟨hr, rfl, rfl, rfl, rfl, fun p hp => ?_⟩
      obtain ⟨p1, p2⟩ := hx p hp
      refine ⟨(b4 p (by omega)).trans p1, ?_, p2⟩
      have h3 : p = 0 ∨ p = 1 ∨ p = 2 := by omega
      rcases h3 with rfl | rfl | rfl
      · rw [upd_n _ _ (by omega), upd_n _ _ (by omega)]; exact (upd_s ..).trans p1
      · rw [upd_n _ _ (by omega), upd_s]; exact p1
      · rw [upd_s]; exact p1
    · rw [if_neg he, if_neg he, upd_n _ _ he, upd_n _ _ he, upd_n _ _ he, upd_n _ _ he]
      obtain ⟨q1, q2, q3, q4, q5, q6⟩ := hI.2.2.2.2.2.2.2 c (by omega)
      refine ⟨q1, q2, q3, q4, q5, fun p hp => ?_⟩
      obtain ⟨p1, p2, p3⟩ := q6 p hp
      have hp3 := (hR.2.2.2.2.2 _ q1).2.2.2.2.2.1
      refine ⟨(b3 _ (by omega)).trans p1, ?_, p3⟩
      rw [upd_n _ _ (by omega), upd_n _ _ (by omega), upd_n _ _ (by omega)]
      exact p2
