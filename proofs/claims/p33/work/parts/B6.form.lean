/-! The law's formula. -/
section FO
variable {T : Nat} {ch : Nat → Nat} {d R K V C0 : Nat} {pl tu ar cr0 : Nat → Nat} {an cv0 : Nat → Nat → Nat} {g : xG} {a : xA}
theorem m1n {q : Nat} (h : q < 2 ^ 31) : ¬ nI q = -1 := fun e => by
  have : (-1 : Int32) < 0 := by decide
  exact nI_pos (n := q) h (by rw [e]; exact this)
theorem q_read {r s x y : Nat} (h : StT 16 ch d R K V C0 pl tu ar cr0 an cv0 g a) (hch : ∀ i, i < 16 → ch i = txt r s x y i) (hr : r < R) (hs : s < R) (hx : x < 4) (hy : y < 4) : ∃ (z : Int32) (g' : xG) (a' : xA), f_X1_read g a = some (z, g', a') ∧ Sm PX QX g a g' a' ∧ ((z = -1 ∧ pl r = 2 ∧ pl s = 2) ∨ (¬ z = -1 ∧ ¬ (pl r = 2 ∧ pl s = 2))) := by
  obtain ⟨gm, am, hB, h0, hR, hK, hT, hI⟩ := h
  have hP := PZ_of hB h0 hR hT
  have key : ∃ (z : Int32) (g' : xG) (a' : xA), f_X1_read g a = some (z, g', a') ∧ Sm PX QX g a g' a' := by
    rcases readZ hP with ⟨q, g', a', gm', am', w1, w2, w3, w4, w5⟩ | ⟨k, hd, C, cr, cv, g', a', gm', am', w2, w3, w4, _⟩
    · exact ⟨_, g', a', w2, w4⟩
    · exact ⟨_, g', a', w2, w4⟩
  obtain ⟨z, g', a', e1, e2⟩ := key
  refine ⟨z, g', a', e1, e2, ?_⟩
  rcases rdF hP hch hr hs hx hy with ⟨k1, k2, g2, a2, k3⟩ | ⟨k1, q, g2, a2, k2, k3⟩
  · rw [e1] at k3
    exact Or.inl ⟨congrArg (fun u => u.1) (Option.some.inj k3), k1, k2⟩
  · rw [e1] at k3
    have : z = nI q := congrArg (fun u => u.1) (Option.some.inj k3)
    exact Or.inr ⟨by rw [this]; exact m1n (by omega), k1⟩
theorem q_define (h : StT T ch d R K V C0 pl tu ar cr0 an cv0 g a) : ∃ (z : Int32) (g1 : xG) (a1 : xA), f_X1_read g a = some (z, g1, a1) ∧
    ((¬ z = -1 ∧ ∃ g' a', f_X11_define g a = some (.inl (1, g', a')) ∧ Sm PX QX g a g' a') ∨
     (z = -1 ∧ R = 8 ∧ ∃ g' a', f_X11_define g a = some (.inl (2, g', a')) ∧ Sm PX QX g a g' a') ∨
     (z = -1 ∧ R < 8 ∧ ∃ k X g' a', f_X11_define g a = some (.inr (nI R, g', a')) ∧ St d (R + 1) K V C0 (nup pl R k) (nup tu R X) ar cr0 an cv0 g' a' ∧
       ∀ (w : Nat) (T : Nat → Nat), (∀ p, p < d ^ w → T p < d) → (∀ r, r < R → bdiff (im d w T (pl r) (tu r)) (tu r) = 0) → bdiff (im d w T k X) X = 0)) := by
  obtain ⟨gm, am, hB, h0, hR, hK, hT, hI⟩ := h
  have hP := PZ_of hB h0 hR hT
  have hd2 := hB.1
  have hT60 := hT.1
  rcases readZ hP with ⟨q, g', a', gm', am', w1, w2, w3, w4, w5⟩ | ⟨k, hd, C, cr, cv, g', a', gm', am', w2, w3, w4, w5, k1, hH, C1, C15, hA⟩
  · have hne : ¬ nI q = -1 := m1n (by omega)
    refine ⟨nI q, g', a', w2, Or.inl ⟨hne, g', a', ?_, w4⟩⟩
    unfold f_X11_define
    rw [w2, Option.bind_some, if_neg hne]
  · refine ⟨-1, g', a', w2, Or.inr ?_⟩
    have e1 : g' 1 = nI R := (w4.1 1 (by decide)).trans hR.2.1
    have hR8 := hR.1
    by_cases z : R = 8
    · refine Or.inl ⟨rfl, z, g', a', ?_, w4⟩
      unfold f_X11_define
      rw [w2, Option.bind_some, if_pos rfl, if_neg (show ¬ g' 1 < 8 by rw [e1, z]; decide)]
    · refine Or.inr ?_
      have hRlt : R < 8 := by omega
      have hB1 := Bas_sm hB w4
      have hR1 := CR_fr hR (w4.1 1 (by decide)) (w5.1 1 (by decide)) (w4.2 5 (by decide)) (w4.2 6 (by decide)) (w5.2.1 1 (by decide) (by decide)) (w5.2.1 2 (by decide) (by decide))
      have h01 : gm' 0 = nI d := (w5.1 0 (by decide)).trans h0
      obtain ⟨hk, h7, h4, hh, _⟩ := id hH
      obtain ⟨X, a2, t1, t2, t3, t4⟩ := th4 (C := C) (pl := pl) (tu := tu) (cr := cr) (cv := cv) (hd := hd) hk h7 (fun i hi => (hh i hi).2.2) (d ^ k) 0 fu 0 a' (by omega) (fu_gt (by have := pw9 hd2 hk; omega)) (Nat.pow_pos (by decide)) (fun u => ⟨fun q => (by rw [Nat.zero_testBit] at q; cases q), fun q => by omega⟩) hB1 hA.1 (fun i hi => (hh i hi).1)
      have s2 := Sm_tr w4 (Sm_mo t2 (P' := PX) (Q' := QX) (by decide) (by decide))
      have x1 : ∀ i, i ≠ 1 → i ≠ 6 → (upd (upd g' 1 (nI (R + 1))) 6 0) i = g' i := fun i h h' => (upd_n _ _ h').trans (upd_n _ _ h)
      have x2 : ∀ i, i ≠ 5 → i ≠ 6 → (upA (upA a2 5 (upd (a2 5) R (nI k))) 6 (upd (a2 6) R (nI X))) i = a2 i := fun i h h' => (upA_n _ _ h').trans (upA_n _ _ h)
      have x3 : ∀ i, i ≠ 3 → i ≠ 1 → i ≠ 8 → (upd (upd (upd gm' 8 0) 3 0) 1 (nI (R + 1))) i = gm' i := fun i h h' h'' => (upd_n _ _ h').trans ((upd_n _ _ h).trans (upd_n _ _ h''))
      have x4 : ∀ i, i ≠ 1 → i ≠ 2 → (upA (upA am' 1 (upd (am' 1) R (nI k))) 2 (upd (am' 2) R (nI X))) i = am' i := fun i h h' => (upA_n _ _ h').trans (upA_n _ _ h)
      refine ⟨rfl, hRlt, k, X, upd (upd g' 1 (nI (R + 1))) 6 0, upA (upA a2 5 (upd (a2 5) R (nI k))) 6 (upd (a2 6) R (nI X)), ?_, ?_, fun w Tb hTb hkp => ?_⟩
      · unfold f_X11_define
        rw [w2, Option.bind_some, if_pos rfl]
        dsimp only
        rw [if_pos (show g' 1 < 8 by rw [e1]; exact nI_lt (b := 8) hRlt (by decide)), show f_X1_tuplesOfHead g' a' = some (nI X, a2) from t1, Option.bind_some, h7]
        unfold f_X10_add
        rw [e1, Option.bind_some, put_in (by omega) (by decide), put_in (by omega) (by decide), nI_1, upA_n a2 (r := 5) (j := 6) _ (by decide)]
      · refine ⟨0, ch, upd (upd (upd gm' 8 0) 3 0) 1 (nI (R + 1)), upA (upA am' 1 (upd (am' 1) R (nI k))) 2 (upd (am' 2) R (nI X)), ?_, ?_, ?_, ?_, ?_, ?_⟩
        · exact Bas_fr hB ((x1 0 (by decide) (by decide)).trans (s2.1 0 (by decide))) ((x2 2 (by decide) (by decide)).trans (s2.2 2 (by decide))) ((x2 3 (by decide) (by decide)).trans (s2.2 3 (by decide)))
        · rw [x3 0 (by decide) (by decide) (by decide), h01]
        · have a5 : a2 5 = a' 5 := t2.2 5 (by decide)
          have a6 : a2 6 = a' 6 := t2.2 6 (by decide)
          refine ⟨by omega, ?_, upd_s .., ?_, ?_, fun r hr => ?_⟩
          · rw [upd_n _ _ (by decide), upd_s]
          · rw [upA_n _ _ (by decide), upA_s, upd_n _ _ (by omega), a5]
            exact hR1.2.2.2.1
          · rw [upA_s, upd_n _ _ (by omega), a6]
            exact hR1.2.2.2.2.1
          · have q5 : (upA (upA a2 5 (upd (a2 5) R (nI k))) 6 (upd (a2 6) R (nI X))) 5 = upd (a' 5) R (nI k) := by rw [upA_n _ _ (by decide), upA_s, a5]
            have q6 : (upA (upA a2 5 (upd (a2 5) R (nI k))) 6 (upd (a2 6) R (nI X))) 6 = upd (a' 6) R (nI X) := by rw [upA_s, a6]
            have q1 : (upA (upA am' 1 (upd (am' 1) R (nI k))) 2 (upd (am' 2) R (nI X))) 1 = upd (am' 1) R (nI k) := by rw [upA_n _ _ (by decide), upA_s]
            have q2 : (upA (upA am' 1 (upd (am' 1) R (nI k))) 2 (upd (am' 2) R (nI X))) 2 = upd (am' 2) R (nI X) := by rw [upA_s]
            rw [q5, q6, q1, q2]
            by_cases hrR : r = R
            · rw [hrR, upd_s, upd_s, upd_s, upd_s, nup_s, nup_s]
              exact ⟨rfl, rfl, rfl, rfl, k1, hk, t3⟩
            · rw [upd_n _ _ hrR, upd_n _ _ hrR, upd_n _ _ hrR, upd_n _ _ hrR, nup_n _ _ hrR, nup_n _ _ hrR]
              exact hR1.2.2.2.2.2 r (by omega)
        · exact CK_fr (CK_sm hd2 hK w4 w5) (x1 4 (by decide) (by decide)) (x3 2 (by decide) (by decide) (by decide)) (fun k hk => x1 (15 + k) (by omega) (by omega)) (fun k hk => (x2 (47 + k) (by omega) (by omega)).trans (t2.2 (47 + k) (hp47 k hk))) (x4 3 (by decide) (by decide)) (x4 4 (by decide) (by decide))
        · exact ⟨by decide, rfl, rfl, fun i hi => by omega⟩
        · exact CI_fr hI (by omega) (fun r hr => nup_n _ _ (by omega)) ((x1 14 (by decide) (by decide)).trans (s2.1 14 (by decide))) ((x1 13 (by decide) (by decide)).trans (s2.1 13 (by decide))) ((x3 6 (by decide) (by decide) (by decide)).trans (w5.1 6 (by decide))) ((x3 7 (by decide) (by decide) (by decide)).trans (w5.1 7 (by decide))) ((x2 32 (by decide) (by decide)).trans (s2.2 32 (by decide))) ((x2 33 (by decide) (by decide)).trans (s2.2 33 (by decide))) ((x2 34 (by decide) (by decide)).trans (s2.2 34 (by decide))) ((x2 35 (by decide) (by decide)).trans (s2.2 35 (by decide))) ((x4 9 (by decide) (by decide)).trans (w5.2.1 9 (by decide) (by decide))) ((x4 10 (by decide) (by decide)).trans (w5.2.1 10 (by decide) (by decide)))
      · refine pp_keep (by omega) hTb (fun c hc => ?_) (fun i hi => (hh i hi).2.2) t4
        obtain ⟨-, -, -, -, -, i7, i8, i9, i10⟩ := hA.1.2.2.2.2.2 c hc
        refine ⟨fun j hj => (i10 j hj).2, i7, ?_⟩
        rcases (hA.2.2 c hc).1 with q | q
        · have e5 : PPz pl cr c = pl (cr c) := plx_r (by omega)
          have e6 : TTz d tu cr c = tu (cr c) := if_neg (by omega)
          rw [e5, e6]
          exact hkp _ q
        · have e5 : PPz pl cr c = 2 := if_pos q
          have e6 : TTz d tu cr c = eqm d := if_pos q
          rw [e5, e6]
          exact eqm_apl hd2 hTb
theorem fo216 {pl' tu' : Nat → Nat} {g0 : xG} {a0 : xA} (h : St d (R + 1) K V C0 pl' tu' ar cr0 an cv0 g0 a0) (hnew : ∀ k, k < K → (∀ r, r < R → bdiff (im d (ar k) (an k) (pl' r) (tu' r)) (tu' r) = 0) → bdiff (im d (ar k) (an k) (pl' R) (tu' R)) (tu' R) = 0) {N : Int32} : ∀ (m k n : Nat) (g : xG) (a : xA), k + m = K → m < n → Sm PX QX g0 a0 g a →
    ∃ g' a', f_L_formula_216 n g a (nI R) (nI K) (nI R) N 1 (nI k) = some (N, g', a') ∧ Sm PX QX g0 a0 g' a'
  | 0, k, n, g, a, hk, hn, s => by
    obtain ⟨n, rfl⟩ := pos_of hn
    obtain ⟨-, -, -, -, hK6, -⟩ := St_b h
    refine ⟨g, a, ?_, s⟩
    rw [e_L_formula_216, if_pos (nI_le (by omega) (by omega))]
    unfold f_L_formula_266
    rw [if_neg (by decide)]
  | m + 1, k, n, g, a, hk, hn, s => by
    obtain ⟨n, rfl⟩ := pos_of hn
    obtain ⟨-, -, hR8, -, hK6, -⟩ := St_b h
    have hkK : k < K := by omega
    obtain ⟨b, g1, a1, e1, s1, e2⟩ := q_keepsAll (St_fr h s) (m := R) hkK (by omega)
    rw [e_L_formula_216, if_neg (nI_ge hkK (by omega)), if_neg (show ¬ (1 : Int32) = 0 by decide), if_neg (nI_pos (by omega)), e1, Option.bind_some]
    dsimp only
    rw [show nI k + 1 = nI (k + 1) from nI_1 k]
    cases b with
    | false =>
      rw [if_pos (show (if false = true then (1 : Int32) else 0) = 0 from rfl)]
      exact fo216 h hnew m (k + 1) n g1 a1 (by omega) (by omega) (Sm_tr s s1)
    | true =>
      obtain ⟨g2, a2, k1, s2⟩ := q_keeps (St_fr h (Sm_tr s s1)) hkK (r := R) (by omega)
      rw [if_neg (show ¬ (if true = true then (1 : Int32) else 0) = 0 by decide), k1, rgt_r, Option.bind_some]
      dsimp only
      rw [if_pos (hnew k hkK (e2 rfl)), if_neg (show ¬ nI 1 = 0 by decide)]
      exact fo216 h hnew m (k + 1) n g2 a2 (by omega) (by omega) (Sm_tr (Sm_tr s s1) s2)
theorem fo216n {x : Int32} (hx : x < 0) {N y : Int32} {n : Nat} (hn : 0 < n) : f_L_formula_216 n g a y (nI K) x N 1 0 = some (N, g, a) := by
  obtain ⟨n, rfl⟩ := pos_of hn
  have e : f_L_formula_266 g a N 1 = some (N, g, a) := by
    unfold f_L_formula_266
    rw [if_neg (by decide)]
  rw [e_L_formula_216]
  by_cases q : nI K ≤ 0
  · rw [if_pos q, e]
  · rw [if_neg q, if_neg (show ¬ (1 : Int32) = 0 by decide), if_pos hx, e]
/-- behind the reading: what is defined, and what keeps it -/
theorem fo129 {r s x y : Nat} (h : StT 16 ch d R K V C0 pl tu ar cr0 an cv0 g a) (hch : ∀ i, i < 16 → ch i = txt r s x y i) (hr : r < R) (hs : s < R) (hx : x < 4) (hy : y < 4) {z : Int32} (hz : (z = -1 ∧ pl r = 2 ∧ pl s = 2) ∨ (¬ z = -1 ∧ ¬ (pl r = 2 ∧ pl s = 2))) :
    ∃ (R' : Nat) (pl' tu' : Nat → Nat) (g' : xG) (a' : xA), f_L_formula_129 g a (nI R) (nI K) z (if pl r = 2 ∧ pl s = 2 then 1 else 0) = some (nI R', g', a') ∧ St d R' K V C0 pl' tu' ar cr0 an cv0 g' a' ∧ R ≤ R' := by
  obtain ⟨hB, hd2, hR8, -, hK6, -⟩ := St_b (StT_St h)
  obtain ⟨z1, g1, a1, e1, -, e2⟩ := q_read h hch hr hs hx hy
  obtain ⟨z2, g2, a2, e3, e4⟩ := q_define h
  have ez : z2 = z1 := congrArg (fun u => u.1) (Option.some.inj (e3.symm.trans e1))
  subst ez
  have ed : f_L_defines g a = Option.bind (f_X11_define g a) (fun u1 => Sum.elim (fun z3 => (if z3.1 = 2 then some ((-9), z3.2.1, z3.2.2) else (if z3.1 = 1 then some ((-7), z3.2.1, z3.2.2) else none))) (fun z3 => some (z3.1, z3.2.1, z3.2.2)) u1) := rfl
  rcases e4 with ⟨q, g', a', k1, k2⟩ | ⟨q, qR, g', a', k1, k2⟩ | ⟨q, qR, k, X, g', a', k1, k2, k3⟩
  · have hn : ¬ (pl r = 2 ∧ pl s = 2) := by
      rcases e2 with ⟨e, _⟩ | ⟨_, e⟩
      · exact absurd e q
      · exact e
    have hz' : ¬ z = -1 := by
      rcases hz with ⟨_, e⟩ | ⟨e, _⟩
      · exact absurd e hn
      · exact e
    refine ⟨R, pl, tu, g', a', ?_, St_fr (StT_St h) k2, Nat.le_refl _⟩
    unfold f_L_formula_129
    rw [ed, k1, Option.bind_some, if_neg hn]
    dsimp only [Sum.elim]
    rw [if_neg (show ¬ 1 = 2 by decide), if_pos rfl, Option.bind_some]
    dsimp only
    rw [if_neg hz']
    unfold f_L_formula_148
    rw [if_pos rfl, if_pos rfl]
    unfold f_L_formula_165
    rw [if_neg hz']
    unfold f_L_formula_176
    rw [if_pos rfl, if_pos (show (-7 : Int32) < 0 by decide)]
    unfold f_L_formula_193
    rw [if_pos (show (-7 : Int32) < 0 by decide)]
    exact fo216n (by decide) (fu_gt (by decide))
  · have hn : pl r = 2 ∧ pl s = 2 := by
      rcases e2 with ⟨_, e⟩ | ⟨e, _⟩
      · exact e
      · exact absurd q e
    have hz' : z = -1 := by
      rcases hz with ⟨e, _⟩ | ⟨_, e⟩
      · exact e
      · exact absurd hn e
    refine ⟨R, pl, tu, g', a', ?_, St_fr (StT_St h) k2, Nat.le_refl _⟩
    unfold f_L_formula_129
    rw [ed, k1, Option.bind_some, if_pos hn, hz']
    dsimp only [Sum.elim]
    rw [if_pos rfl, Option.bind_some]
    dsimp only
    rw [if_pos rfl]
    unfold f_L_formula_148
    rw [if_pos rfl, if_neg (show ¬ (-9 : Int32) = -7 by decide)]
    unfold f_L_formula_165
    rw [if_pos rfl]
    unfold f_L_formula_176
    rw [if_pos rfl, if_pos (show (-9 : Int32) < 0 by decide)]
    unfold f_L_formula_193
    rw [if_pos (show (-9 : Int32) < 0 by decide)]
    exact fo216n (by decide) (fu_gt (by decide))
  · have hn : pl r = 2 ∧ pl s = 2 := by
      rcases e2 with ⟨_, e⟩ | ⟨e, _⟩
      · exact e
      · exact absurd q e
    have hz' : z = -1 := by
      rcases hz with ⟨e, _⟩ | ⟨_, e⟩
      · exact e
      · exact absurd hn e
    have hne : ¬ nI R = -7 := fun e => by
      have : (-7 : Int32) < 0 := by decide
      exact nI_pos (n := R) (by omega) (by rw [e]; exact this)
    obtain ⟨g5, a5, e5, s5⟩ := fo216 k2 (fun k' hk' hall => by
      obtain ⟨-, -, -, -, o5⟩ := St_k k2 hk'
      rw [nup_s, nup_s]
      refine k3 _ _ (fun p hp => (o5 p hp).2) (fun r' hr' => ?_)
      have := hall r' hr'
      rw [nup_n _ _ (by omega), nup_n _ _ (by omega)] at this
      exact this) (N := nI (R + 1)) K 0 fu g' a' (by omega) (fu_gt (by omega)) Sm_rfl
    refine ⟨R + 1, nup pl R k, nup tu R X, g5, a5, ?_, St_fr k2 s5, by omega⟩
    unfold f_L_formula_129
    rw [ed, k1, Option.bind_some, if_pos hn, hz']
    dsimp only [Sum.elim]
    rw [Option.bind_some]
    dsimp only
    rw [if_pos rfl]
    unfold f_L_formula_148
    rw [if_pos rfl, if_neg hne]
    unfold f_L_formula_165
    rw [if_pos rfl]
    unfold f_L_formula_176
    rw [if_pos rfl, if_neg (nI_pos (by omega))]
    unfold f_L_formula_193
    rw [if_neg (nI_pos (by omega)), if_pos rfl, show nI R + 1 = nI (R + 1) from nI_1 R]
    exact e5
theorem q_formula (h : St d R K V C0 pl tu ar cr0 an cv0 g a) (v : Int32) (hR1 : 1 ≤ R) : ∃ (R' : Nat) (pl' tu' : Nat → Nat) (g' : xG) (a' : xA), f_L_formula g a v (nI R) (nI K) = some (nI R', g', a') ∧ St d R' K V C0 pl' tu' ar cr0 an cv0 g' a' ∧ R ≤ R' := by
  obtain ⟨hB, hd2, hR8, -, hK6, -⟩ := St_b h
  obtain ⟨T, ch, hT⟩ := St_StT h
  obtain ⟨r, hr, l1⟩ := low_ok (g := g0X) (a := a0X) v hR1 (by omega)
  obtain ⟨s, hs, l2⟩ := low_ok (g := g0X) (a := a0X) ((v : Int32) >>> ((3 : Int32) &&& 31)) hR1 (by omega)
  obtain ⟨x, hx, l3⟩ := low_ok (g := g0X) (a := a0X) ((v : Int32) >>> ((5 : Int32) &&& 31)) (n := 4) (by decide) (by decide)
  obtain ⟨y, hy, l4⟩ := low_ok (g := g0X) (a := a0X) ((v : Int32) >>> ((7 : Int32) &&& 31)) (n := 4) (by decide) (by decide)
  have h0 := wipe_T hT
  obtain ⟨g1, a1, e1, h1⟩ := q_types h0 (c0 := 97) (c1 := 98) (c2 := 58) (c3 := 48 + nI r) (by decide) (v4_1 r (by omega))
  obtain ⟨g2, a2, e2, h2⟩ := q_types h1 (c0 := 40) (c1 := 97) (c2 := 44) (c3 := 97 + nI x) (by decide) (v4_2 x hx)
  obtain ⟨g3, a3, e3, h3⟩ := q_types h2 (c0 := 41) (c1 := 38) (c2 := 48 + nI s) (c3 := 40) (by decide) (v4_3 s (by omega))
  obtain ⟨g4, a4, e4, h4⟩ := q_types h3 (c0 := 97 + nI y) (c1 := 44) (c2 := 98) (c3 := 41) (by decide) (v4_4 y hy)
  have hch : ∀ i, i < 16 → (fun i => if i < 0 + 4 + 4 + 4 then (fun i => if i < 0 + 4 + 4 then (fun i => if i < 0 + 4 then (fun i => if i < 0 then ch i else tri4 97 98 58 (48 + r) (i - 0)) i else tri4 40 97 44 (97 + x) (i - (0 + 4))) i else tri4 41 38 (48 + s) 40 (i - (0 + 4 + 4))) i else tri4 (97 + y) 44 98 41 (i - (0 + 4 + 4 + 4))) i = txt r s x y i := fun i hi => by
    unfold txt
    dsimp only
    rw [show 0 + 4 + 4 + 4 = 12 from rfl, show 0 + 4 + 4 = 8 from rfl, show 0 + 4 = 4 from rfl]
    by_cases q1 : i < 4
    · rw [if_pos (show i < 12 by omega), if_pos (show i < 8 by omega), if_pos q1, if_neg (show ¬ i < 0 by omega), if_pos q1]
      rfl
    · by_cases q2 : i < 8
      · rw [if_pos (show i < 12 by omega), if_pos q2, if_neg q1, if_neg q1, if_pos q2]
      · by_cases q3 : i < 12
        · rw [if_pos q3, if_neg q2, if_neg q1, if_neg q2, if_pos q3]
        · rw [if_neg q3, if_neg q1, if_neg q2, if_neg q3]
  obtain ⟨z, g5, a5, e5, s5, e6⟩ := q_read h4 hch hr hs hx hy
  have h5 := StT_fr h4 s5
  have ef : f_X11_fault g4 a4 = some (z, g5, a5) := by
    unfold f_X11_fault
    rw [e5, Option.bind_some]
  obtain ⟨R', pl', tu', g', a', f1, f2, f3⟩ := fo129 h5 hch hr hs hx hy e6
  refine ⟨R', pl', tu', g', a', ?_, f2, f3⟩
  unfold f_L_formula
  rw [show f_L_low g a v (nI R) = _ from l1, Option.bind_some, show f_L_low g a ((v : Int32) >>> ((3 : Int32) &&& 31)) (nI R) = _ from l2, Option.bind_some, e1, Option.bind_some]
  dsimp only
  rw [show f_L_low g1 a1 ((v : Int32) >>> ((5 : Int32) &&& 31)) 4 = _ from l3, Option.bind_some, e2, Option.bind_some]
  dsimp only
  rw [e3, Option.bind_some]
  dsimp only
  rw [show f_L_low g3 a3 ((v : Int32) >>> ((7 : Int32) &&& 31)) 4 = _ from l4, Option.bind_some, e4, Option.bind_some]
  dsimp only
  rw [ef, Option.bind_some]
  dsimp only
  rw [ofr0 (StT_St h5) hr, rgt_r, Option.bind_some]
  by_cases p1 : pl r = 2
  · rw [p1, if_pos (show nI 2 = 2 from rfl), ofr0 (StT_St h5) hs, rgt_r, Option.bind_some]
    by_cases p2 : pl s = 2
    · rw [if_pos ⟨p1, p2⟩] at f1
      rw [p2, if_pos (show nI 2 = 2 from rfl)]
      exact f1
    · rw [if_neg (fun e => p2 e.2)] at f1
      obtain ⟨-, -, -, b4, -⟩ := St_r (StT_St h5) hs
      rw [if_neg (show ¬ nI (pl s) = 2 from fun e => p2 (nI_inj (b := 2) (by omega) (by decide) e))]
      exact f1
  · rw [if_neg (fun e => p1 e.1)] at f1
    obtain ⟨-, -, -, b4, -⟩ := St_r (StT_St h5) hr
    rw [if_neg (show ¬ nI (pl r) = 2 from fun e => p1 (nI_inj (b := 2) (by omega) (by decide) e))]
    exact f1
end FO
