/-! solutions, solutionsAnew, solve: the calls. -/
theorem Sm29 {d : Nat} {g : xG} {a : xA} {f f' : Nat → Int32} : Sm [] [29, 30, 36, 37] g a g (upA (upA a 36 f) 37 f') := Sm_A (Sm_A Sm_rfl (by decide)) (by decide)
theorem tryAll {d V C most : Nat} {cr P : Nat → Nat} {cv : Nat → Nat → Nat} {TC : Nat → Nat} {g : xG} {a : xA} (hB : Bas d g a) (hI : Ins d 1 V C cr P cv TC g a) (h1 : 1 ≤ most) (h7 : most ≤ 729) :
    ∃ f f', f_X2_allowAll 1 g a = some (upA a 36 f) ∧ f_X2_completed 8 1 g (upA a 36 f) (nI V - 1) (nI most) = some (nI (min most (cb (fun c => SolC d C P cv TC (dg d c)) (d ^ V))), upA (upA a 36 f) 37 f') ∧ (most = 1 → Fst d V (fun c => SolC d C P cv TC (dg d c)) (d ^ V) f') := by
  have hd := hB.1
  have hV := hI.2.1
  have hc := hI.2.2.2.2.2
  obtain ⟨f, e1, e2⟩ := allowA (j := 1) (by decide) hB
  have hd8 : 2 ^ d - 1 < 8 := by rcases hd with rfl | rfl <;> decide
  obtain ⟨f', s1, s2, s3⟩ := completedX (V := V) (j := 1) (cr := cr) (cv := cv) (TC := TC) (al := fun _ => 2 ^ d - 1) hd hB.2.1 (fun c h => (hc c h).2.2.2.2.2.2.1) V 8 (by omega) (Nat.le_refl _) hV (upA a 36 f) (fun _ => 0) most h1 h7 (Ins_29 (f := f) hI) (fun v hv => ⟨(congrFun (upA_s a 36 f) v).trans (e2 v hv), hd8⟩) (fun v q1 q2 => by omega)
  have hG : ∀ c, GS d C P cv TC (fun _ => 2 ^ d - 1) V (mix d V (fun _ => 0) c) ↔ SolC d C P cv TC (dg d c) := fun c => GS_all (by omega) (fun c' hc' => ⟨(hc c' hc').2.2.2.2.2.2.1, fun p hp => ((hc c' hc').2.2.2.2.2.2.2.2 p hp).2⟩)
  refine ⟨f, f', e1, ?_, fun q c k1 k2 k3 => s3 q c k1 ((hG c).mpr k2) (fun c' k4 k5 => k3 c' k4 ((hG c').mp k5))⟩
  rw [show nI V - 1 = nI V + -nI 1 from m1s _]
  refine s1.trans ?_
  rw [cb_cong (d ^ V) (fun k _ => hG k)]
theorem powA {d n : Nat} {g : xG} {a a' : xA} (hB : Bas d g a) (hn : n < 7) (h : a' 2 = a 2) : t_X4_power g a' (nI n) = nI (d ^ n) := by
  unfold t_X4_power
  rw [h, at_in hn (by decide), hB.2.2.1 n hn]
theorem ob1_solutions : ob_solutions Cpl := by
  intro g a gm am h
  have hC := h
  obtain ⟨d, R, K, T, V, C, pl, tu, ar, ch, cr, an, cv, hB, h0, hR, hK, hT, hI⟩ := h
  have hd := hB.1
  have hX := Ins_of hR hI
  have hM := InsM_of hR hI
  have hV := hI.2.1
  have h7 := pw6 hd hV
  have hp := pwp hd V
  obtain ⟨f, f', e1, e2, _⟩ := tryAll hB hX hp h7
  have hmin : min (d ^ V) (cb (fun c => SolC d C (fun c => pl (cr c)) cv (fun c => tu (cr c)) (dg d c)) (d ^ V)) = cb (fun c => SolC d C (fun c => pl (cr c)) cv (fun c => tu (cr c)) (dg d c)) (d ^ V) := Nat.min_eq_right (cb_le _)
  have m1 := so9 (g := upd gm 8 0) (a := am) hd ((upd_n _ _ (by decide)).trans h0) (InsM_fr hM (upd_n _ _ (by decide)) (upd_n _ _ (by decide)) rfl rfl rfl rfl) (d ^ V) 0 fu (by omega) (fu_gt (by omega))
  refine ⟨(nI (cb (fun c => SolC d C (fun c => pl (cr c)) cv (fun c => tu (cr c)) (dg d c)) (d ^ V)), upA (upA a 36 f) 37 f'), (nI (cb (fun c => SolC d C (fun c => pl (cr c)) cv (fun c => tu (cr c)) (dg d c)) (d ^ V)), upd gm 8 0), ?_, m1, rfl, Cpl_fr hC (Sm_A (Sm_A Sm_rfl (by decide)) (by decide)) SmM_8⟩
  unfold f_X11_solutions f_X2_countSolutions
  rw [e1, Option.bind_some, show g (12 + 2 * 1) = nI V from hI.2.2.2.1, powA hB (by omega) (upA_n _ _ (by decide)), e2, Option.bind_some, Option.bind_some, hmin]
theorem lo22 {d V : Nat} {g : xG} {a : xA} {z : Nat → Nat} (h0 : g 0 = nI d) (hV : V ≤ 6) (h : ∀ i, i < V → a 37 i = nI (z i)) :
    ∀ (p r n : Nat), p + r = V → p < n → f_X2_lowestSolution_22 1 g n a (nI (nm d (fun q => z (p + q)) r)) (nI p + -nI 1) = some (nI (nm d z V), a)
  | 0, r, n, hp, hn => by
    obtain ⟨n, rfl⟩ := pos_of hn
    have e : r = V := by omega
    subst e
    rw [e_X2_lowestSolution_22, if_pos (show nI 0 + -nI 1 < 0 from m1z), hn_0 d z]
  | p + 1, r, n, hp, hn => by
    obtain ⟨n, rfl⟩ := pos_of hn
    rw [e_X2_lowestSolution_22, m1p, if_neg (nI_pos (by omega)), at_in (by omega) (by decide), show a (30 + 7 * 1) p = nI (z p) from h p (by omega), h0]
    simp only [z0, z1, pk_mul, nI_add]
    rw [hn_sh d z]
    exact lo22 h0 hV h p (r + 1) n (by omega) (by omega)
theorem ob1_solve : ob_solve Cpl := by
  intro g a gm am h
  have hC := h
  obtain ⟨d, R, K, T, V, C, pl, tu, ar, ch, cr, an, cv, hB, h0, hR, hK, hT, hI⟩ := h
  have hd := hB.1
  have hd0 : 0 < d := by omega
  have hX := Ins_of hR hI
  have hM := InsM_of hR hI
  have hV := hI.2.1
  have h7 := pw6 hd hV
  have hp := pwp hd V
  obtain ⟨f, f', e1, e2, e3⟩ := tryAll (most := 1) hB hX (Nat.le_refl _) (by decide)
  have hfin : Cpl g (upA (upA a 36 f) 37 f') (upd gm 8 0) am := Cpl_fr hC (Sm_A (Sm_A Sm_rfl (by decide)) (by decide)) SmM_8
  have ex : f_X11_solve g a = Option.bind (f_X2_lowestSolution 1 g a) (fun u1 => some (u1.1, u1.2)) := rfl
  rcases sv7 (g := upd gm 8 0) (a := am) hd ((upd_n _ _ (by decide)).trans h0) (InsM_fr hM (upd_n _ _ (by decide)) (upd_n _ _ (by decide)) rfl rfl rfl rfl) (d ^ V) 0 fu (by omega) (fu_gt (by omega)) (fun c hc => by omega) with ⟨m1, m2⟩ | ⟨c, c1, c2, c3, m1⟩
  · have hz := cb_no (P := fun c => SolC d C (fun c => pl (cr c)) cv (fun c => tu (cr c)) (dg d c)) (d ^ V) m2
    rw [hz] at e2
    refine ⟨(-1, upA (upA a 36 f) 37 f'), (-1, upd gm 8 0), ?_, m1, rfl, hfin⟩
    rw [ex]
    unfold f_X2_lowestSolution f_X2_hasSolution
    rw [e1, Option.bind_some, show g (12 + 2 * 1) = nI V from hI.2.2.2.1, z1] at *
    rw [e2, Option.bind_some]
    rfl
  · have hz := cb_pos (P := fun c => SolC d C (fun c => pl (cr c)) cv (fun c => tu (cr c)) (dg d c)) c1 c2
    rw [Nat.min_eq_left (by omega)] at e2
    have hf := e3 rfl c c1 c2 c3
    refine ⟨(nI c, upA (upA a 36 f) 37 f'), (nI c, upd gm 8 0), ?_, m1, rfl, hfin⟩
    rw [ex]
    have l := lo22 (g := g) (a := upA (upA a 36 f) 37 f') (z := dg d c) hB.2.1 hV (fun i hi => by rw [upA_s]; exact hf i hi) V 0 fu (by omega) (fu_gt (by omega))
    rw [dg_nm hd0 V c c1] at l
    have e4 : f_X2_hasSolution 1 g (upA a 36 f) = some (1, upA (upA a 36 f) 37 f') := by
      unfold f_X2_hasSolution
      rw [show g (12 + 2 * 1) = nI V from hI.2.2.2.1, show (1 : Int32) = nI 1 from rfl, show f_X2_completed 8 1 g (upA a 36 f) (nI V - nI 1) (nI 1) = _ from e2, Option.bind_some]
      rfl
    unfold f_X2_lowestSolution
    rw [e1, Option.bind_some, e4, Option.bind_some, if_neg (show ¬ (1 : Int32) = 0 by decide), show g (12 + 2 * 1) = nI V from hI.2.2.2.1, show nI V - 1 = nI V + -nI 1 from m1s _]
    show Option.bind (f_X2_lowestSolution_22 1 g fu (upA (upA a 36 f) 37 f') (nI 0) (nI V + -nI 1)) _ = _
    rw [show f_X2_lowestSolution_22 1 g fu (upA (upA a 36 f) 37 f') (nI 0) (nI V + -nI 1) = _ from l, Option.bind_some]
theorem st2 {d V : Nat} {g : xG} (hd : d = 2 ∨ d = 3) (h0 : g 0 = nI d) (hV : V ≤ 6) (hg : g 14 = nI V) : ∀ (r p u n : Nat) (a : xA), p + r = V → r < n → (∀ q, q < r → a 37 (p + q) = nI (dg d u q)) →
    ∃ f, f_X2_stepOn_2 1 g n a (nI p) = some (upA a 37 f) ∧ (∀ q, q < r → f (p + q) = nI (dg d (u + 1) q)) ∧ ∀ q, q < p → f q = a 37 q
  | 0, p, u, n, a, hp, hn, h => by
    obtain ⟨n, rfl⟩ := pos_of hn
    refine ⟨a 37, ?_, fun q hq => by omega, fun _ _ => rfl⟩
    rw [e_X2_stepOn_2, show g (12 + 2 * 1) = nI V from hg, if_pos (nI_le (by omega) (by omega)), upA_id]
  | r + 1, p, u, n, a, hp, hn, h => by
    obtain ⟨n, rfl⟩ := pos_of hn
    have hd0 : 0 < d := by omega
    have h1 : a 37 p = nI (u % d) := by
      have := h 0 (by omega)
      rw [dg_0] at this
      exact this
    have hm := Nat.mod_lt u hd0
    have hdm := Nat.div_add_mod u d
    have hdm1 := Nat.div_add_mod (u + 1) d
    rw [e_X2_stepOn_2, show g (12 + 2 * 1) = nI V from hg, if_neg (nI_ge (by omega) (by omega)), show a (30 + 7 * 1) = a 37 from rfl, at_in (by omega) (by decide), h1, h0, show nI (u % d) + 1 = nI (u % d + 1) from nI_1 _]
    by_cases hc : d ≤ u % d + 1
    · have hu1 : (u + 1) % d = 0 ∧ (u + 1) / d = u / d + 1 := by
        have e : u + 1 = d * (u / d + 1) := by rw [Nat.mul_add, Nat.mul_one]; omega
        rw [e]
        exact ⟨Nat.mul_mod_right _ _, Nat.mul_div_cancel_left _ hd0⟩
      obtain ⟨f, e1, e2, e3⟩ := st2 hd h0 hV hg r (p + 1) (u / d) n (upA a 37 (upd (a 37) p (nI 0))) (by omega) (by omega) (fun q hq => by
        rw [upA_s, upd_n _ _ (by omega), ← dg_s, show p + 1 + q = p + (q + 1) by omega]
        exact h (q + 1) (by omega))
      refine ⟨f, ?_, fun q hq => ?_, fun q hq => ?_⟩
      · rw [if_pos (nI_le hc (by omega)), z0, put_in (by omega) (by decide), show nI p + 1 = nI (p + 1) from nI_1 p]
        refine Eq.trans e1 ?_
        rw [upA_2]
      · cases q with
        | zero => rw [dg_0, hu1.1, Nat.add_zero, e3 p (by omega), upA_s, upd_s]
        | succ q => rw [dg_s, hu1.2, show p + (q + 1) = p + 1 + q by omega]; exact e2 q (by omega)
      · rw [e3 q (by omega), upA_s, upd_n _ _ (by omega)]
    · have hu1 : (u + 1) % d = u % d + 1 ∧ (u + 1) / d = u / d := by
        have e : u + 1 = d * (u / d) + (u % d + 1) := by omega
        constructor
        · rw [e, Nat.mul_add_mod, Nat.mod_eq_of_lt (by omega)]
        · rw [e, Nat.mul_add_div hd0, Nat.div_eq_of_lt (show u % d + 1 < d by omega), Nat.add_zero]
      refine ⟨upd (a 37) p (nI (u % d + 1)), ?_, fun q hq => ?_, fun q hq => upd_n _ _ (by omega)⟩
      · rw [if_neg (nI_ge (by omega) (by omega)), put_in (by omega) (by decide)]
      · cases q with
        | zero =>
          rw [dg_0, hu1.1]
          exact upd_s ..
        | succ q =>
          rw [dg_s, hu1.2, upd_n _ _ (by omega), ← dg_s]
          exact h (q + 1) hq
theorem he2 {d j V C : Nat} {cr P : Nat → Nat} {cv : Nat → Nat → Nat} {TC : Nat → Nat} {g : xG} {a : xA} (hd : d = 2 ∨ d = 3) (h0 : g 0 = nI d) (hI : Ins d j V C cr P cv TC g a) {y : Nat → Nat} (hy : ∀ v, v < V → a (30 + 7 * j) v = nI (y v) ∧ y v < d) :
    ∀ (r c n : Nat), c + r = C → r < n → ∃ b : Bool, f_X2_holdsEverywhere_2 j g a n (nI c) = some (if b then 1 else 0) ∧ (b = true ↔ ∀ c', c ≤ c' → c' < C → hld d (P c') (TC c') (cv c') y = true)
  | 0, c, n, hp, hn => by
    obtain ⟨n, rfl⟩ := pos_of hn
    have hC := hI.2.2.1
    refine ⟨true, ?_, fun _ c' h1 h2 => by omega, fun _ => rfl⟩
    rw [e_X2_holdsEverywhere_2, hI.2.2.2.2.1, if_pos (nI_le (by omega) (by omega))]
    rfl
  | r + 1, c, n, hp, hn => by
    obtain ⟨n, rfl⟩ := pos_of hn
    have hC := hI.2.2.1
    obtain ⟨h1, h2, h3, h4, h5, h6, h7, h8, h9⟩ := hI.2.2.2.2.2 c (by omega)
    obtain ⟨b, e1, e2⟩ := he2 hd h0 hI hy r (c + 1) n (by omega) (by omega)
    rw [e_X2_holdsEverywhere_2, hI.2.2.2.2.1, if_neg (nI_ge (by omega) (by omega)), holdsX hd h0 hI (by omega) (fun p hp => hy _ (h9 p hp).2), Option.bind_some, show nI c + 1 = nI (c + 1) from nI_1 c]
    cases hh : hld d (P c) (TC c) (cv c) y with
    | true =>
      rw [if_neg (by decide)]
      refine ⟨b, e1, e2.trans ⟨fun q c' q1 q2 => ?_, fun q c' q1 q2 => q c' (by omega) q2⟩⟩
      by_cases he : c' = c
      · rw [he]; exact hh
      · exact q c' (by omega) q2
    | false =>
      rw [if_pos (by decide)]
      refine ⟨false, rfl, fun q => (by cases q), fun q => ?_⟩
      have := q c (Nat.le_refl _) (by omega)
      rw [hh] at this
      cases this
theorem ta38 {d V C : Nat} {cr P : Nat → Nat} {cv : Nat → Nat → Nat} {TC : Nat → Nat} {g : xG} (hd : d = 2 ∨ d = 3) (h0 : g 0 = nI d) :
    ∀ (r p n : Nat) (a : xA), p + r = d ^ V → r < n → Ins d 1 V C cr P cv TC g a → (∀ v, v < V → a 37 v = nI (dg d p v)) →
    ∃ f, f_X2_countByTryingAll_38 1 g n a (nI (cb (fun c => SolC d C P cv TC (dg d c)) p)) (nI r) = some (nI (cb (fun c => SolC d C P cv TC (dg d c)) (d ^ V)), upA a 37 f)
  | 0, p, n, a, hp, hn, hI, hy => by
    obtain ⟨n, rfl⟩ := pos_of hn
    have e : p = d ^ V := by omega
    subst e
    refine ⟨a 37, ?_⟩
    rw [e_X2_countByTryingAll_38, if_pos (show nI 0 ≤ 0 by decide), upA_id]
  | r + 1, p, n, a, hp, hn, hI, hy => by
    obtain ⟨n, rfl⟩ := pos_of hn
    have hV := hI.2.1
    have h7 := pw6 hd hV
    have hd0 : 0 < d := by omega
    obtain ⟨b, e1, e2⟩ := he2 hd h0 hI (y := dg d p) (fun v hv => ⟨hy v hv, dg_lt hd0 _ _⟩) C 0 fu (by omega) (fu_gt (by have := hI.2.2.1; omega))
    have e1' : f_X2_holdsEverywhere 1 g a = some (if b = true then 1 else 0) := e1
    have e2' : b = true ↔ SolC d C P cv TC (dg d p) := e2.trans ⟨fun q c hc => q c (Nat.zero_le _) hc, fun q c _ hc => q c hc⟩
    obtain ⟨f, s1, s2, s3⟩ := st2 hd h0 hV hI.2.2.2.1 V 0 p fu a (by omega) (fu_gt (by omega)) (fun q hq => by rw [Nat.zero_add]; exact hy q hq)
    have s1' : f_X2_stepOn 1 g a = some (upA a 37 f) := s1
    obtain ⟨f2, ih⟩ := ta38 hd h0 r (p + 1) n (upA a 37 f) (by omega) (by omega) (Ins_30 (f := f) hI) (fun v hv => by
      rw [upA_s]
      have := s2 v hv
      rw [Nat.zero_add] at this
      exact this)
    refine ⟨f2, ?_⟩
    rw [e_X2_countByTryingAll_38, if_neg (nI_nle (by omega) (by omega)), e1', Option.bind_some]
    unfold f_X2_countByTryingAll_52
    rw [s1', Option.bind_some, Option.bind_some, pk_m1]
    cases hb : b with
    | false =>
      rw [cb_0 (P := fun c => SolC d C P cv TC (dg d c)) (fun q => by rw [e2'.mpr q] at hb; cases hb), upA_2] at ih
      rw [if_pos (by decide)]
      exact ih
    | true =>
      rw [cb_1 (P := fun c => SolC d C P cv TC (dg d c)) (e2'.mp hb), upA_2] at ih
      rw [if_neg (by decide), show nI (cb (fun c => SolC d C P cv TC (dg d c)) p) + 1 = nI (cb (fun c => SolC d C P cv TC (dg d c)) p + 1) from nI_1 _]
      exact ih
theorem ta2 {g : xG} : ∀ (r p n : Nat) (a : xA), p + r = 6 → r < n → (∀ v, v < p → a 37 v = nI 0) → ∃ f, f_X2_countByTryingAll_2 1 g n a (nI p) = f_X2_countByTryingAll_38 1 g fu (upA a 37 f) 0 (t_X4_power g (upA a 37 f) (g 14)) ∧ ∀ v, v < 6 → f v = nI 0
  | 0, p, n, a, hp, hn, h => by
    obtain ⟨n, rfl⟩ := pos_of hn
    refine ⟨a 37, ?_, fun v hv => h v (by omega)⟩
    rw [e_X2_countByTryingAll_2, if_pos (show (6 : Int32) ≤ nI p from nI_le (a := 6) (by omega) (by omega)), upA_id]
  | r + 1, p, n, a, hp, hn, h => by
    obtain ⟨n, rfl⟩ := pos_of hn
    obtain ⟨f, e1, e2⟩ := ta2 (g := g) r (p + 1) n (upA a 37 (upd (a 37) p (nI 0))) (by omega) (by omega) (fun v hv => by
      rw [upA_s]
      by_cases he : v = p
      · rw [he, upd_s]
      · rw [upd_n _ _ he]; exact h v (by omega))
    refine ⟨f, ?_, e2⟩
    rw [upA_2] at e1
    rw [e_X2_countByTryingAll_2, if_neg (show ¬ (6 : Int32) ≤ nI p from nI_ge (a := p) (b := 6) (by omega) (by decide)), ck_t (inB_t (by omega) (by decide)), nI_clamp (by omega), show nI p + 1 = nI (p + 1) from nI_1 p]
    exact e1
theorem ob1_solutionsAnew : ob_solutionsAnew Cpl := by
  intro g a gm am h
  have hC := h
  obtain ⟨d, R, K, T, V, C, pl, tu, ar, ch, cr, an, cv, hB, h0, hR, hK, hT, hI⟩ := h
  have hd := hB.1
  have hX := Ins_of hR hI
  have hM := InsM_of hR hI
  have hV := hI.2.1
  have h7 := pw6 hd hV
  have hp := pwp hd V
  obtain ⟨f, e1, e2⟩ := ta2 (g := g) 6 0 fu a (by omega) (fu_gt (by omega)) (fun v hv => by omega)
  have m1 := so9 (g := upd gm 8 0) (a := am) hd ((upd_n _ _ (by decide)).trans h0) (InsM_fr hM (upd_n _ _ (by decide)) (upd_n _ _ (by decide)) rfl rfl rfl rfl) (d ^ V) 0 fu (by omega) (fu_gt (by omega))
  obtain ⟨f2, t1⟩ := ta38 (V := V) (g := g) hd hB.2.1 (d ^ V) 0 fu (upA a 37 f) (by omega) (fu_gt (by omega)) (Ins_30 (f := f) hX) (fun v hv => by
    rw [upA_s, e2 v (by omega)]
    congr 1
    unfold dg
    rw [Nat.zero_div, Nat.zero_mod])
  rw [upA_2] at t1
  refine ⟨(nI (cb (fun c => SolC d C (fun c => pl (cr c)) cv (fun c => tu (cr c)) (dg d c)) (d ^ V)), upA a 37 f2), (nI (cb (fun c => SolC d C (fun c => pl (cr c)) cv (fun c => tu (cr c)) (dg d c)) (d ^ V)), upd gm 8 0), ?_, ?_, rfl, Cpl_fr hC (Sm_A Sm_rfl (by decide)) SmM_8⟩
  · unfold f_X11_solutionsAnew f_X2_countByTryingAll
    rw [z0, e1, hI.2.2.2.1, powA hB (by omega) (upA_n _ _ (by decide))]
    rw [show f_X2_countByTryingAll_38 1 g fu (upA a 37 f) 0 (nI (d ^ V)) = _ from t1, Option.bind_some]
  · unfold f_X12_solutionsAnew
    rw [show f_X12_solutions gm am = _ from m1, Option.bind_some]
