/-! The law, over the class's functions: it answers 1. -/
section LA
variable {d R K V : Nat} {g : xG} {a : xA}
theorem l_493 {L : Nat} {xs : Nat → Int32} (h : J d R K V g a) : f_L_law_493 L xs g a (nI d) (nI R) (nI K) (nI V) 1 = some 1 := by
  obtain ⟨C, pl, tu, ar, cr, an, cv, h⟩ := h
  obtain ⟨g1, a1, e1, s1⟩ := q_relations h
  have h1 := St_fr h s1
  obtain ⟨g2, a2, e2, s2⟩ := q_surrounded h1
  have h2 := St_fr h1 s2
  obtain ⟨g3, a3, e3, s3⟩ := q_templates h2
  have h3 := St_fr h2 s3
  obtain ⟨a4, e4, s4⟩ := q_instances h3
  have h4 := St_fr h3 s4
  obtain ⟨x, g5, a5, e5, e6⟩ := q_endsL h4
  unfold f_L_law_493
  rw [if_neg (show ¬ (1 : Int32) = 0 by decide), e1, Option.bind_some]
  dsimp only
  rw [if_neg (show ¬ (1 : Int32) = 0 by decide), e2, Option.bind_some]
  dsimp only
  rw [if_neg (show ¬ (1 : Int32) = 0 by decide), e3, Option.bind_some]
  dsimp only
  rw [if_neg (show ¬ (1 : Int32) = 0 by decide), e4, Option.bind_some]
  dsimp only
  rw [if_neg (show ¬ (1 : Int32) = 0 by decide), e5, Option.bind_some]
  dsimp only
  rw [if_neg e6]
/-- what comes behind a turn -/
def Nx (L : Nat) (xs : Nat → Int32) (d t k n : Nat) : Prop := ∀ (R K V : Nat) (g : xG) (a : xA), 1 ≤ R → J d R K V g a → f_L_law_70 L xs n g a (nI d) (nI R) (nI K) (nI V) 1 (nI t) (nI k + 1) = some 1
theorem l_263 {L : Nat} {xs : Nat → Int32} {t k n : Nat} (hk : k < 41) (hN : Nx L xs d t k n) (hR1 : 1 ≤ R) (h : J d R K V g a) (w : Int32) {s : Nat} (hs4 : 6 ≤ s) (hs : s < 13) : f_L_law_263 L xs (f_L_law_70 L xs n) g a (nI d) (nI R) (nI K) (nI V) (nI t) (nI k) w (nI s) = some 1 := by
  obtain ⟨hd, hR, hK, hV1, hV, -⟩ := J_b h
  have hin : inB (nI k) 41 = true := inB_t hk (by decide)
  unfold f_L_law_263
  rw [ck_t hin]
  by_cases q7 : s = 7
  · obtain ⟨C, pl, tu, ar, cr, an, cv, hS⟩ := h
    obtain ⟨R', pl', tu', g', a', e1, e2, e3⟩ := q_formula hS ((w : Int32) >>> ((4 : Int32) &&& 31)) hR1
    obtain ⟨-, -, hR8', -⟩ := St_b e2
    rw [q7, if_pos (show nI 7 = 7 from rfl), e1, Option.bind_some]
    dsimp only
    rw [if_neg (nI_nle (by omega) (by omega))]
    unfold f_L_law_293
    rw [ck_t hin, if_neg (show ¬ (1 : Int32) = 0 by decide)]
    exact hN R' K V g' a' (by omega) ⟨C, pl', tu', ar, cr, an, cv, e2⟩
  rw [if_neg (show ¬ nI s = 7 from fun e => q7 (nI_inj (b := 7) (by omega) (by decide) e))]
  by_cases q8 : s = 8
  · obtain ⟨u, hu, l1⟩ := low_ok (g := g) (a := a) ((w : Int32) >>> ((4 : Int32) &&& 31)) (n := 3) (by decide) (by decide)
    obtain ⟨c, g', e1, e2, hJ, a', e3, hJ'⟩ := s_instance h (n := 2 + u) (by omega) (by omega)
    rw [q8, if_pos (show nI 8 = 8 from rfl), show f_L_low g a ((w : Int32) >>> ((4 : Int32) &&& 31)) 3 = _ from l1, Option.bind_some, show (2 : Int32) + nI u = nI (2 + u) from nI_add 2 u, e1, rgt_r, Option.bind_some]
    dsimp only
    rw [if_neg (nI_pos (by omega)), e3, Option.bind_some]
    dsimp only
    rw [if_pos rfl]
    exact hN R K (2 + u) g' a' hR1 hJ'
  rw [if_neg (show ¬ nI s = 8 from fun e => q8 (nI_inj (b := 8) (by omega) (by decide) e))]
  by_cases q11 : 11 ≤ s
  · rw [if_pos (show (11 : Int32) ≤ nI s from nI_le (a := 11) q11 (by omega))]
    obtain ⟨C, pl, tu, ar, cr, an, cv, hS⟩ := id h
    by_cases q : s = 11
    · obtain ⟨g1, a1, e1, s1⟩ := q_relations hS
      rw [q, if_pos (show nI 11 = 11 from rfl), e1, Option.bind_some]
      exact hN R K V g1 a1 hR1 (J_fr h s1)
    · obtain ⟨a1, e1, s1⟩ := q_instances hS
      rw [if_neg (show ¬ nI s = 11 from fun e => q (nI_inj (b := 11) (by omega) (by decide) e)), e1, Option.bind_some]
      exact hN R K V g a1 hR1 (J_fr h s1)
  rw [if_neg (show ¬ (11 : Int32) ≤ nI s from nI_ge (a := s) (b := 11) (by omega) (by decide))]
  obtain ⟨C, pl, tu, ar, cr, an, cv, hS⟩ := id h
  obtain ⟨r, hr, l1⟩ := low_ok (g := g) (a := a) ((w : Int32) >>> ((4 : Int32) &&& 31)) hR1 (by omega)
  obtain ⟨v0, hv0, l2⟩ := low_ok (g := g) (a := a) ((w : Int32) >>> ((7 : Int32) &&& 31)) hV1 (by omega)
  obtain ⟨v1, hv1, l3⟩ := low_ok (g := g) (a := a) ((w : Int32) >>> ((9 : Int32) &&& 31)) hV1 (by omega)
  obtain ⟨v2, hv2, l4⟩ := low_ok (g := g) (a := a) ((w : Int32) >>> ((11 : Int32) &&& 31)) hV1 (by omega)
  obtain ⟨x, g', a', e1, hJ, ex⟩ := s_constrains hS hr hv0 hv1 hv2
  have e434 : ∀ z2 z1 : Int32, z1 = (if nI (pl r) ≤ 1 then -1 else nI v1) → z2 = (if nI (pl r) ≤ 2 then -1 else nI v2) → f_L_law_434 L xs (f_L_law_70 L xs n) g a (nI d) (nI R) (nI K) (nI V) (nI t) (nI k) z2 z1 (nI v0) (nI r) = some 1 := fun z2 z1 k1 k2 => by
    unfold f_L_law_434
    rw [ck_t hin, k1, k2, e1, Option.bind_some]
    dsimp only
    rcases ex with ex | ex
    · rw [if_pos ex]
      exact hN R K V g' a' hR1 hJ
    · by_cases q : x = -9
      · rw [if_pos q]
        exact hN R K V g' a' hR1 hJ
      · rw [if_neg q, if_neg ex]
        exact hN R K V g' a' hR1 hJ
  have e414 : ∀ z1 : Int32, z1 = (if nI (pl r) ≤ 1 then -1 else nI v1) → f_L_law_414 L xs (f_L_law_70 L xs n) g a (nI d) (nI R) (nI K) (nI V) (nI t) (nI k) w (nI (pl r)) z1 (nI v0) (nI r) = some 1 := fun z1 k1 => by
    unfold f_L_law_414
    rw [ck_t hin]
    by_cases q : nI (pl r) ≤ 2
    · rw [if_pos q]
      exact e434 _ _ k1 (by rw [if_pos q])
    · rw [if_neg q, l4, Option.bind_some]
      exact e434 _ _ k1 (by rw [if_neg q])
  rw [l1, Option.bind_some, ofr0 hS hr, rgt_r, Option.bind_some, l2, Option.bind_some]
  by_cases q : nI (pl r) ≤ 1
  · rw [if_pos q]
    exact e414 _ (by rw [if_pos q])
  · rw [if_neg q, l3, Option.bind_some]
    exact e414 _ (by rw [if_neg q])
theorem l_70 {L : Nat} {xs : Nat → Int32} {t : Nat} (ht : t ≤ 40) : ∀ (m k n R K V : Nat) (g : xG) (a : xA), k + m = t → m < n → 1 ≤ R → J d R K V g a → f_L_law_70 L xs n g a (nI d) (nI R) (nI K) (nI V) 1 (nI t) (nI k) = some 1
  | 0, k, n, R, K, V, g, a, hk, hn, hR1, h => by
    obtain ⟨n, rfl⟩ := pos_of hn
    rw [e_L_law_70, ck_t (inB_t (by omega) (by decide)), if_pos (nI_le (by omega) (by omega))]
    exact l_493 h
  | m + 1, k, n, R, K, V, g, a, hk, hn, hR1, h => by
    obtain ⟨n, rfl⟩ := pos_of hn
    obtain ⟨hd, hR, hK, hV1, hV, -⟩ := J_b h
    have hk41 : k < 41 := by omega
    have hin : inB (nI k) 41 = true := inB_t hk41 (by decide)
    have hN : Nx L xs d t k n := fun R K V g a hR1 h => by
      rw [show nI k + 1 = nI (k + 1) from nI_1 k]
      exact l_70 ht m (k + 1) n R K V g a (by omega) (by omega) hR1 h
    rw [e_L_law_70, ck_t hin, if_neg (nI_ge (by omega) (by omega)), if_neg (show ¬ (1 : Int32) = 0 by decide), show (2 : Int32) + nI k = nI (2 + k) from nI_add 2 k, ck_t (inB_t (by omega) (by decide))]
    obtain ⟨w, hw⟩ : ∃ w, w = cellF L xs (nI (2 + k)) := ⟨_, rfl⟩
    rw [← hw]
    obtain ⟨s, hs, l0⟩ := low_ok (g := g) (a := a) w (n := 13) (by decide) (by decide)
    rw [show f_L_low g a w 13 = _ from l0, Option.bind_some]
    by_cases q4 : 4 ≤ s
    · rw [if_pos (show (4 : Int32) ≤ nI s from nI_le (a := 4) q4 (by omega))]
      by_cases q : s = 4
      · obtain ⟨u, hu, l1⟩ := low_ok (g := g) (a := a) ((w : Int32) >>> ((4 : Int32) &&& 31)) (n := 3) (by decide) (by decide)
        obtain ⟨x, g', a', e1, e2⟩ := s_relates h (p := 1 + u) (by omega) (by omega)
        rw [q, if_pos (show nI 4 = 4 from rfl), show f_L_low g a ((w : Int32) >>> ((4 : Int32) &&& 31)) 3 = _ from l1, Option.bind_some, show (1 : Int32) + nI u = nI (1 + u) from nI_add 1 u, e1, Option.bind_some]
        dsimp only
        rcases e2 with ⟨k1, k2⟩ | ⟨k1, k2⟩
        · rw [if_pos k1]
          exact hN R K V g' a' hR1 k2
        · rw [if_neg k1, show nI R + 1 = nI (R + 1) from nI_1 R]
          exact hN (R + 1) K V g' a' (by omega) k2
      rw [if_neg (show ¬ nI s = 4 from fun e => q (nI_inj (b := 4) (by omega) (by decide) e))]
      by_cases q5 : s = 5
      · obtain ⟨x, g', a', e1, e2⟩ := s_takes h ((w : Int32) >>> ((4 : Int32) &&& 31))
        rw [q5, if_pos (show nI 5 = 5 from rfl), e1, Option.bind_some]
        dsimp only
        rcases e2 with ⟨k1, k2⟩ | ⟨k1, k2⟩
        · rw [if_pos k1]
          exact hN R K V g' a' hR1 k2
        · rw [if_neg k1, show nI K + 1 = nI (K + 1) from nI_1 K]
          exact hN R (K + 1) V g' a' hR1 k2
      rw [if_neg (show ¬ nI s = 5 from fun e => q5 (nI_inj (b := 5) (by omega) (by decide) e))]
      by_cases q6 : s = 6
      · rw [q6, if_pos (show nI 6 = 6 from rfl)]
        by_cases qK : K = 0
        · rw [if_pos (show nI K ≤ 0 by rw [qK]; decide)]
          exact l_263 hk41 hN hR1 h w (s := 6) (by decide) (by decide)
        · rw [if_neg (nI_nle (by omega) (by omega))]
          obtain ⟨u1, hu1, l1⟩ := low_ok (g := g) (a := a) ((w : Int32) >>> ((4 : Int32) &&& 31)) (n := K) (by omega) (by omega)
          obtain ⟨u2, hu2, l2⟩ := low_ok (g := g) (a := a) ((w : Int32) >>> ((7 : Int32) &&& 31)) (n := 9) (by decide) (by decide)
          obtain ⟨u3, hu3, l3⟩ := low_ok (g := g) (a := a) ((w : Int32) >>> ((11 : Int32) &&& 31)) (n := d) (by omega) (by omega)
          obtain ⟨x, a', e1, hJ⟩ := s_tells h (nI u1) (nI u2) (nI u3)
          rw [l1, Option.bind_some, show f_L_low g a ((w : Int32) >>> ((7 : Int32) &&& 31)) 9 = _ from l2, Option.bind_some, l3, Option.bind_some, e1, Option.bind_some]
          exact hN R K V g a' hR1 hJ
      · rw [if_neg (show ¬ nI s = 6 from fun e => q6 (nI_inj (b := 6) (by omega) (by decide) e))]
        exact l_263 hk41 hN hR1 h w (by omega) hs
    · rw [if_neg (show ¬ (4 : Int32) ≤ nI s from nI_ge (a := s) (b := 4) (by omega) (by decide))]
      obtain ⟨u1, hu1, l1⟩ := low_ok (g := g) (a := a) ((w : Int32) >>> ((4 : Int32) &&& 31)) hR1 (by omega)
      obtain ⟨u2, hu2, l2⟩ := low_ok (g := g) (a := a) ((w : Int32) >>> ((7 : Int32) &&& 31)) (n := 9) (by decide) (by decide)
      obtain ⟨u3, hu3, l3⟩ := low_ok (g := g) (a := a) ((w : Int32) >>> ((11 : Int32) &&& 31)) (n := 4) (by decide) (by decide)
      have e143 : ∀ z : Int32, f_L_law_143 L xs (f_L_law_70 L xs n) g a (nI d) (nI R) (nI K) (nI V) 1 (nI t) (nI k) z (nI u2) (nI u1) = some 1 := fun z => by
        obtain ⟨x, a', e1, hJ⟩ := s_puts h (nI u1) (nI u2) z
        unfold f_L_law_143
        rw [ck_t hin, e1, Option.bind_some]
        exact hN R K V g a' hR1 hJ
      rw [l1, Option.bind_some, show f_L_low g a ((w : Int32) >>> ((7 : Int32) &&& 31)) 9 = _ from l2, Option.bind_some, show f_L_low g a ((w : Int32) >>> ((11 : Int32) &&& 31)) 4 = _ from l3, Option.bind_some]
      by_cases q : nI u3 ≤ 0
      · rw [if_pos q]
        exact e143 0
      · rw [if_neg q]
        exact e143 1
theorem law_is (L : Nat) (xs : Nat → Int32) : ∃ r0 : xG × xA, f_X11_beginAnew g0X a0X 2 = some r0 ∧ f_L_law L xs r0.1 r0.2 = some 1 := by
  obtain ⟨r0, b1, hC⟩ := ob1_begin
  have b0 : r0.1 0 = nI 2 := by
    obtain ⟨f2, f3, f5, f6, b2, -⟩ := beginAnew (d := 2) (Or.inl rfl) g0X a0X
    rw [show f_X11_beginAnew g0X a0X 2 = _ from b2] at b1
    cases b1
    rfl
  refine ⟨r0, b1, ?_⟩
  obtain ⟨u, hu, l1⟩ := low_ok (g := r0.1) (a := r0.2) (cellF L xs 0) (n := 2) (by decide) (by decide)
  obtain ⟨g1, a1, e1, hJ1⟩ := s_values hC (d := 2 + u) (by omega)
  rcases s_relation hJ1 (p := 2) (by decide) (by decide) with ⟨-, -, g2, a2, e2, hJ2⟩ | ⟨c, -, e2⟩
  · obtain ⟨t, ht, l2⟩ := low_ok (g := g2) (a := a2) (cellF L xs 1) (n := 30) (by decide) (by decide)
    have e50 : f_L_law_50 L xs g2 a2 (nI (2 + u)) 1 0 1 1 = some 1 := by
      unfold f_L_law_50
      rw [ck_t (show inB 1 300 = true from inB_t (i := 1) (by decide) (by decide)), show f_L_low g2 a2 (cellF L xs 1) 30 = _ from l2, Option.bind_some, show (6 : Int32) + nI t = nI (6 + t) from nI_add 6 t]
      exact l_70 (t := 6 + t) (by omega) (6 + t) 0 fu 1 0 1 g2 a2 (by omega) (fu_gt (by omega)) (Nat.le_refl _) hJ2
    unfold f_L_law
    rw [ck_t (show inB 0 300 = true from inB_t (i := 0) (by decide) (by decide)), show f_L_low r0.1 r0.2 (cellF L xs 0) 2 = _ from l1, Option.bind_some, show (2 : Int32) + nI u = nI (2 + u) from nI_add 2 u, e1, rgt_r, Option.bind_some]
    dsimp only
    rw [if_pos (show r0.1 0 = 2 from b0), show f_X11_relation g1 a1 2 = _ from e2, rgt_r, Option.bind_some]
    dsimp only
    rw [if_pos (show nI 0 = 0 from rfl)]
    exact e50
  · -- a relation of two places can always be made, if there is none
    exfalso
    obtain ⟨hd, hR, hK, hV1, hV, e0, e1', e4, e14, hB, -⟩ := J_b hJ1
    unfold f_X11_relation at e2
    rw [if_neg (show ¬ nI 2 < 1 by decide), if_pos (show nI 2 ≤ t_X4_widest g1 a1 by rw [wid hB]; exact nI_le (by omega) (by omega)), e1', if_pos (show nI 0 < 8 by decide)] at e2
    unfold f_X10_add at e2
    rw [Option.bind_some] at e2
    exact sum_ne e2.symm
end LA
