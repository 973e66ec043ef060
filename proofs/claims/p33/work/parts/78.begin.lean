/-! answers, code, values, the beginning. -/
/-- out of range, in the class's words -/
theorem out2 {v : Int32} {N : Nat} (h : v < 0 ∨ nI N ≤ v) : v < 0 ∨ (¬ v < 0 ∧ ¬ v < nI N) := by
  by_cases h1 : v < 0
  · exact Or.inl h1
  · refine Or.inr ⟨h1, fun h2 => ?_⟩
    have h3 := h.resolve_left h1
    rw [Int32.lt_iff_toInt_lt] at h2
    rw [Int32.le_iff_toInt_le] at h3
    omega
theorem ob1_answers : ob_answers Cpl := by
  intro g a gm am v1 v2 v3 h
  have h8 : ∀ v, Cpl g a (upd gm 8 v) am := fun v => Cpl_8 h
  obtain ⟨d, R, K, T, V, C, pl, tu, ar, ch, cr, an, cv, hB, h0, hR, hK, hT, hI⟩ := h
  have hd := hB.1
  have hK6 := hK.1
  have hbad : ∀ (x1 : Int32) (s : Nat), s ≠ 0 → s < 4 → f_X12_answers_64 gm am x1 v2 v3 (nI s) = some (0, upd gm 8 (nI s), am) := fun x1 s hs h4 => by
    unfold f_X12_answers_64
    rw [if_neg (by rw [upd_s]; exact nI_nle (by omega) (by omega))]
  rcases ix3 v1 (R := K) (by omega) with ⟨q1, q2⟩ | ⟨k, hk, rfl⟩
  · refine Or.inr (Or.inl ⟨(3, a), (0, upd gm 8 (nI 1), am), ?_, rfl, ?_, thr_8, h8 _⟩)
    · unfold f_X11_answers
      rw [hK.2.1, getF_0 q1, om_n]
    · unfold f_X12_answers
      rw [isOp_0 hK.2.2.1 q2, Option.bind_some, if_pos rfl]
      exact hbad _ 1 (by decide) (by decide)
  obtain ⟨o1, o2, o3⟩ := hK.2.2.2 k hk
  have hw := o1.2.2.2.1
  have h27 := pw3 hd hw
  have hp0 := pwp hd (ar k)
  have em : f_X12_answers gm am (nI k) v2 v3 = if t_X12_in gm am v2 0 (nI (d ^ ar k) - 1) = 0 then f_X12_answers_64 gm am (nI k) v2 v3 1 else if t_X12_in gm am v3 0 (nI d - 1) = 0 then f_X12_answers_64 gm am (nI k) v2 v3 2 else f_X12_answers_64 gm am (nI k) v2 v3 0 := by
    unfold f_X12_answers
    rw [isOp_1 hK.2.2.1 hk (by omega), Option.bind_some, if_neg (by decide), Option.bind_some, if_neg (by decide)]
    unfold f_X12_answers_29
    rw [ck_t (inB_t (by omega) (by decide)), nI_clamp (by omega), o3, pwM (by omega) h0, Option.bind_some, h0]
  have ec : f_X11_answers g a (nI k) v2 v3 = (if v2 < 0 then f_X11_answers_38 g a else (if v2 < nI (d ^ ar k) then (if v3 < 0 then f_X11_answers_63 g a else (if v3 < nI d then some (.inr ((t_X5_answerAt k g a v2), (t_X5_setAnswer k g a v2 v3))) else f_X11_answers_63 g a)) else f_X11_answers_38 g a)) := by
    unfold f_X11_answers
    rw [hK.2.1, getF_1 hk hK6, om_s, pts hB hw o1.2.1, hB.2.1]
  rcases ix3 v2 (R := d ^ ar k) (by omega) with ⟨q1, q2⟩ | ⟨t, ht, rfl⟩
  · refine Or.inr (Or.inl ⟨(3, a), (0, upd gm 8 (nI 1), am), ?_, rfl, ?_, thr_8, h8 _⟩)
    · rw [ec]
      rcases out2 q1 with q | ⟨q3, q4⟩
      · rw [if_pos q]; rfl
      · rw [if_neg q3, if_neg q4]; rfl
    · rw [em, if_pos (inR_0 q2)]
      exact hbad _ 1 (by decide) (by decide)
  have hin : ¬ t_X12_in gm am (nI t) 0 (nI (d ^ ar k) - 1) = 0 := by rw [inR_1 ht (by omega)]; decide
  rw [if_neg hin] at em
  rw [if_neg (nI_pos (by omega)), if_pos (nI_lt ht (by omega))] at ec
  rcases ix3 v3 (R := d) (by omega) with ⟨q1, q2⟩ | ⟨x, hx, rfl⟩
  · refine Or.inr (Or.inr ⟨(1, a), (0, upd gm 8 (nI 2), am), ?_, rfl, ?_, thr_8, h8 _⟩)
    · rw [ec]
      rcases out2 q1 with q | ⟨q3, q4⟩
      · rw [if_pos q]; rfl
      · rw [if_neg q3, if_neg q4]; rfl
    · rw [em, if_pos (inR_0 q2)]
      exact hbad _ 2 (by decide) (by decide)
  have hin2 : ¬ t_X12_in gm am (nI x) 0 (nI d - 1) = 0 := by rw [inR_1 hx (by omega)]; decide
  rw [if_neg hin2] at em
  rw [if_neg (nI_pos (by omega)), if_pos (nI_lt hx (by omega))] at ec
  obtain ⟨p1, p2⟩ := o1.2.2.2.2 t ht
  refine Or.inl ⟨(nI (an k t), upA a (47 + k) (upd (a (47 + k)) t (nI x))), (nI (an k t), upd gm 8 0, upA am 4 (upd (am 4) (27 * k + t) (nI x))), ?_, ?_, thr_8, rfl, ?_⟩
  · rw [ec]
    unfold t_X5_answerAt t_X5_setAnswer
    rw [at_in (by omega) (by decide), p1, put_in (by omega) (by decide)]
  · rw [em]
    unfold f_X12_answers_64
    simp only [z27, nI_add, pk_mul]
    rw [if_pos (le00 (by decide)), ck_t (inB_t (by omega) (by decide)), ck_t (inB_t (by omega) (by decide)), nI_clamp (by omega), (o2.2.2.2 t ht).1]
  · have hm : ∀ i, i ≠ 8 → upd gm 8 0 i = gm i := fun i h1 => upd_n _ _ h1
    have ha : ∀ i, i ≠ 47 + k → upA a (47 + k) (upd (a (47 + k)) t (nI x)) i = a i := fun i h1 => upA_n _ _ h1
    have hb : ∀ i, i ≠ 4 → upA am 4 (upd (am 4) (27 * k + t) (nI x)) i = am i := fun i h1 => upA_n _ _ h1
    show Cpl g (upA a (47 + k) (upd (a (47 + k)) t (nI x))) (upd gm 8 0) (upA am 4 (upd (am 4) (27 * k + t) (nI x)))
    refine ⟨d, R, K, T, V, C, pl, tu, ar, ch, cr, fun l q => if l = k ∧ q = t then x else an l q, cv, Bas_fr hB rfl (ha _ (by omega)) (ha _ (by omega)), (hm _ (by decide)).trans h0, CR_fr hR rfl (hm _ (by decide)) (ha _ (by omega)) (ha _ (by omega)) (hb _ (by decide)) (hb _ (by decide)), ⟨hK6, hK.2.1, (hm _ (by decide)).trans hK.2.2.1, fun l hl => ?_⟩, CT_fr hT rfl (hm _ (by decide)) (ha _ (by omega)) (hb _ (by decide)), CI_fr hI (Nat.le_refl _) (fun _ _ => rfl) rfl rfl (hm _ (by decide)) (hm _ (by decide)) (ha _ (by omega)) (ha _ (by omega)) (ha _ (by omega)) (ha _ (by omega)) (hb _ (by decide)) (hb _ (by decide))⟩
    obtain ⟨l1, l2, l3⟩ := hK.2.2.2 l hl
    have hlw := pw3 hd l1.2.2.2.1
    refine ⟨⟨l1.1, l1.2.1, l1.2.2.1, l1.2.2.2.1, fun q hq => ?_⟩, ⟨l2.1, l2.2.1, l2.2.2.1, fun q hq => ?_⟩, (congrFun (hb 3 (by decide)) l).trans l3⟩
    · dsimp only
      by_cases he : l = k ∧ q = t
      · rw [if_pos he, he.1, he.2, upA_s, upd_s]
        exact ⟨rfl, hx⟩
      · rw [if_neg he]
        refine ⟨?_, (l1.2.2.2.2 q hq).2⟩
        by_cases hlk : l = k
        · rw [hlk, upA_s, upd_n _ _ (fun e => he ⟨hlk, e⟩), ← hlk]
          exact (l1.2.2.2.2 q hq).1
        · rw [upA_n _ _ (by omega)]
          exact (l1.2.2.2.2 q hq).1
    · dsimp only
      rw [upA_s]
      by_cases he : l = k ∧ q = t
      · rw [if_pos he, he.1, he.2, upd_s]
        exact ⟨rfl, hx⟩
      · rw [if_neg he, upd_n _ _ (fun e => he (by omega))]
        exact l2.2.2.2 q hq
theorem wc_loop {k d w : Nat} {T : Nat → Nat} {g : xG} {a : xA} (hd : d = 2 ∨ d = 3) (h0 : g 0 = nI d) (hO : Opr d k w T g a) : ∀ (p r n : Nat), p + r = d ^ w → p < n →
    f_X5_wholeCode_9 k g a n (lN (nm d (fun q => T (p + q)) r)) (nI p + -nI 1) = some (lN (nm d T (d ^ w)))
  | 0, r, n, hp, hn => by
    obtain ⟨n, rfl⟩ := pos_of hn
    have e : r = d ^ w := by omega
    subst e
    rw [e_X5_wholeCode_9, if_pos (show nI 0 + -nI 1 < 0 from m1z), hn_0 d T]
  | p + 1, r, n, hp, hn => by
    obtain ⟨n, rfl⟩ := pos_of hn
    have h27 := pw3 hd hO.2.2.2.1
    obtain ⟨t1, t2⟩ := hO.2.2.2.2 p (by omega)
    rw [e_X5_wholeCode_9, m1p, if_neg (nI_pos (by omega)), h0]
    unfold t_X5_answerAt
    rw [at_in (by omega) (by decide), t1, nI_l (by omega), nI_l (by omega), lN_mul, lN_add, hn_sh d T]
    exact wc_loop hd h0 hO p (r + 1) n (by omega) (by omega)
theorem wcX {k d w : Nat} {T : Nat → Nat} {g : xG} {a : xA} (hB : Bas d g a) (hO : Opr d k w T g a) : f_X5_wholeCode k g a = some (lN (nm d T (d ^ w))) := by
  have h27 := pw3 hB.1 hO.2.2.2.1
  have := wc_loop hB.1 hB.2.1 hO (d ^ w) 0 fu (by omega) (fu_gt (by omega))
  unfold f_X5_wholeCode
  rw [pts hB hO.2.2.2.1 hO.2.1]
  rw [show nm d (fun q => T (d ^ w + q)) 0 = 0 from rfl, show lN 0 = 0 from rfl] at this
  rw [z1, m1s]
  exact this
theorem cm_loop {op d w : Nat} {T : Nat → Nat} {g : xG} {a : xA} (hd : d = 2 ∨ d = 3) (h0 : g 0 = nI d) (hO : OpM d op w T a) : ∀ (p r n : Nat), p + r = d ^ w → p < n →
    f_X12_codeOf_11 g a n (nI op) (lN (nm d (fun q => T (p + q)) r)) (nI p + -nI 1) = some (lN (nm d T (d ^ w)))
  | 0, r, n, hp, hn => by
    obtain ⟨n, rfl⟩ := pos_of hn
    have e : r = d ^ w := by omega
    subst e
    rw [e_X12_codeOf_11, if_pos (show nI 0 + -nI 1 < 0 from m1z), hn_0 d T]
  | p + 1, r, n, hp, hn => by
    obtain ⟨n, rfl⟩ := pos_of hn
    have h27 := pw3 hd hO.2.2.1
    have hop := hO.1
    obtain ⟨t1, t2⟩ := hO.2.2.2 p (by omega)
    rw [e_X12_codeOf_11, m1p, if_neg (nI_pos (by omega)), h0]
    simp only [z27, z1, nI_add, pk_mul]
    rw [ck_t (inB_t (by omega) (by decide)), nI_clamp (by omega), t1, nI_l (by omega), nI_l (by omega), lN_mul, lN_add, hn_sh d T]
    exact cm_loop hd h0 hO p (r + 1) n (by omega) (by omega)
theorem cmM {op d w : Nat} {T : Nat → Nat} {g : xG} {a : xA} (hd : d = 2 ∨ d = 3) (h0 : g 0 = nI d) (hO : OpM d op w T a) : f_X12_codeOf g a (nI op) (nI w) = some (lN (nm d T (d ^ w))) := by
  have h27 := pw3 hd hO.2.2.1
  have hw := hO.2.2.1
  have := cm_loop hd h0 hO (d ^ w) 0 fu (by omega) (fu_gt (by omega))
  unfold f_X12_codeOf
  rw [pwM (by omega) h0, Option.bind_some]
  rw [show nm d (fun q => T (d ^ w + q)) 0 = 0 from rfl, show lN 0 = 0 from rfl] at this
  rw [z1, m1s]
  exact this
theorem so_loop {d c : Nat} (hd : d = 2 ∨ d = 3) (hc : c < 27) {g : xG} {a : xA} : ∀ (r p n : Nat), p + r = 4 → r < n → f_X4_spreadOut_7 g a n (nI d) (nI (nm 32 (dg d c) p)) (nI (c / d ^ p)) (nI p) = some (nI (sp d c))
  | 0, p, n, hp, hn => by
    obtain ⟨n, rfl⟩ := pos_of hn
    have e : p = 4 := by omega
    subst e
    rw [e_X4_spreadOut_7, if_pos (show (4 : Int32) ≤ nI 4 by decide)]
    rfl
  | r + 1, p, n, hp, hn => by
    obtain ⟨n, rfl⟩ := pos_of hn
    have hcp : c / d ^ p < 2 ^ 31 := Nat.lt_of_le_of_lt (Nat.div_le_self ..) (by omega)
    have hdg : dg d c p < d := dg_lt (by omega) c p
    have hdl : ∀ k, k < p → dg d c k < 32 := fun k _ => by
      have := dg_lt (d := d) (by omega) c k
      omega
    have h32 : (32 : Nat) ^ p = 2 ^ (5 * p) := by rw [Nat.pow_mul]
    have hp2 : (2 : Nat) ^ (5 * p) ≤ 32768 := by
      rcases (by omega : p = 0 ∨ p = 1 ∨ p = 2 ∨ p = 3) with rfl | rfl | rfl | rfl <;> decide
    have e1 : (nI (dg d c p) : Int32) <<< (((5 : Int32) * nI p) &&& 31) = nI (dg d c p * 2 ^ (5 * p)) := by
      rw [show ((5 : Int32) * nI p) = nI (5 * p) from pk_mul 5 p]
      refine pk_shlN _ (5 * p) (sh_l _ (by omega)) ?_
      have : dg d c p * 2 ^ (5 * p) ≤ 3 * 32768 := Nat.mul_le_mul (by omega) hp2
      omega
    have e2 : nI (nm 32 (dg d c) p) ||| nI (dg d c p * 2 ^ (5 * p)) = nI (nm 32 (dg d c) (p + 1)) := by
      rw [nI_or, Nat.or_comm, Nat.mul_comm, ← Nat.two_pow_add_eq_or_of_lt (by rw [← h32]; exact nm_lt p hdl), ← h32]
      congr 1
      show _ = nm 32 (dg d c) p + dg d c p * 32 ^ p
      rw [Nat.mul_comm, Nat.add_comm]
    have e3 : c / d ^ p / d = c / d ^ (p + 1) := dg_step d c p
    have e4 : f_X4_spreadOut_7 g a n (nI d) (nI (nm 32 (dg d c) p) ||| (nI (dg d c p) <<< (((5 : Int32) * nI p) &&& 31))) (nI (c / d ^ p / d)) (nI p + 1) = some (nI (sp d c)) := by
      rw [e1, e2, e3, show nI p + 1 = nI (p + 1) from nI_1 p]
      exact so_loop hd hc r (p + 1) n (by omega) (by omega)
    rw [e_X4_spreadOut_7, if_neg (show ¬ (4 : Int32) ≤ nI p from nI_ge (a := p) (b := 4) (by omega) (by decide))]
    rw [← e4]
    rcases hd with rfl | rfl
    · rw [if_neg (show ¬ nI 2 = 3 by decide)]
      have er : nI (c / 2 ^ p) - nI (c / 2 ^ p) / 2 * 2 = nI (dg 2 c p) := pk_rem hcp (by decide) (by decide)
      have ed : nI (c / 2 ^ p) / 2 = nI (c / 2 ^ p / 2) := pk_div hcp (by decide) (by decide)
      rw [er]
      unfold f_X4_spreadOut_27
      rw [if_neg (show ¬ nI 2 = 3 by decide), ed]
      rfl
    · rw [if_pos (show nI 3 = 3 from rfl)]
      have er : nI (c / 3 ^ p) - nI (c / 3 ^ p) / 3 * 3 = nI (dg 3 c p) := pk_rem hcp (by decide) (by decide)
      have ed : nI (c / 3 ^ p) / 3 = nI (c / 3 ^ p / 3) := pk_div hcp (by decide) (by decide)
      rw [er]
      unfold f_X4_spreadOut_27
      rw [if_pos (show nI 3 = 3 from rfl), ed]
      rfl
theorem soX {d c : Nat} (hd : d = 2 ∨ d = 3) (hc : c < 27) {g : xG} {a : xA} : f_X4_spreadOut g a (nI c) (nI d) = some (nI (sp d c)) := by
  have := so_loop hd hc (g := g) (a := a) 4 0 fu (by omega) (fu_gt (by omega))
  rw [Nat.pow_zero, Nat.div_one] at this
  exact this
theorem be37 {d : Nat} (hd : d = 2 ∨ d = 3) : ∀ (r p n : Nat) (g : xG) (a : xA), p + r = 27 → r < n →
    ∃ f, f_X4_begin_37 n g a (nI d) (nI p) = some (g, upA a 3 f) ∧ (∀ q, q < p → f q = a 3 q) ∧ ∀ q, p ≤ q → q < 27 → f q = nI (sp d q)
  | 0, p, n, g, a, hp, hn => by
    obtain ⟨n, rfl⟩ := pos_of hn
    refine ⟨a 3, ?_, fun _ _ => rfl, fun q h1 h2 => by omega⟩
    rw [e_X4_begin_37, if_pos (show (27 : Int32) ≤ nI p from nI_le (a := 27) (by omega) (by omega)), upA_id]
  | r + 1, p, n, g, a, hp, hn => by
    obtain ⟨n, rfl⟩ := pos_of hn
    obtain ⟨f, e1, e2, e3⟩ := be37 hd r (p + 1) n g (upA a 3 (upd (a 3) p (nI (sp d p)))) (by omega) (by omega)
    refine ⟨f, ?_, fun q hq => ?_, fun q h1 h2 => ?_⟩
    · rw [e_X4_begin_37, if_neg (show ¬ (27 : Int32) ≤ nI p from nI_ge (a := p) (b := 27) (by omega) (by decide)), soX hd (by omega), Option.bind_some, ck_t (inB_t (by omega) (by decide)), nI_clamp (by omega), show nI p + 1 = nI (p + 1) from nI_1 p, e1, upA_2]
    · rw [e2 q (by omega), upA_s, upd_n _ _ (by omega)]
    · by_cases hq : q = p
      · rw [hq, e2 p (by omega), upA_s, upd_s]
      · exact e3 q (by omega) h2
theorem be9 {d : Nat} (hd : d = 2 ∨ d = 3) : ∀ (r p n : Nat) (g : xG) (a : xA), p + r = 7 → r < n →
    ∃ f f', f_X4_begin_9 n g a (nI d) (nI (d ^ p)) (nI p) = some (g, upA (upA a 2 f) 3 f') ∧ (∀ q, q < p → f q = a 2 q) ∧ (∀ q, p ≤ q → q < 7 → f q = nI (d ^ q)) ∧ ∀ q, q < 27 → f' q = nI (sp d q)
  | 0, p, n, g, a, hp, hn => by
    obtain ⟨n, rfl⟩ := pos_of hn
    obtain ⟨f', e1, _, e3⟩ := be37 hd 27 0 fu g a (by omega) (fu_gt (by omega))
    refine ⟨a 2, f', ?_, fun _ _ => rfl, fun q h1 h2 => by omega, fun q hq => e3 q (Nat.zero_le _) hq⟩
    rw [e_X4_begin_9, if_pos (show (7 : Int32) ≤ nI p from nI_le (a := 7) (by omega) (by omega)), z0, e1, upA_id]
  | r + 1, p, n, g, a, hp, hn => by
    obtain ⟨n, rfl⟩ := pos_of hn
    obtain ⟨f, f', e1, e2, e3, e4⟩ := be9 hd r (p + 1) n g (upA a 2 (upd (a 2) p (nI (d ^ p)))) (by omega) (by omega)
    refine ⟨f, f', ?_, fun q hq => ?_, fun q h1 h2 => ?_, e4⟩
    · rw [e_X4_begin_9, if_neg (show ¬ (7 : Int32) ≤ nI p from nI_ge (a := p) (b := 7) (by omega) (by decide)), ck_t (inB_t (by omega) (by decide)), nI_clamp (by omega), show nI p + 1 = nI (p + 1) from nI_1 p, pk_mul, ← Nat.pow_succ, e1, upA_2]
    · rw [e2 q (by omega), upA_s, upd_n _ _ (by omega)]
    · by_cases hq : q = p
      · rw [hq, e2 p (by omega), upA_s, upd_s]
      · exact e3 q (by omega) h2
theorem b10 {d : Nat} (hd : d = 2 ∨ d = 3) {g : xG} {a : xA} (h0 : g 0 = nI d) : f_X10_begin_19 fu g a 0 0 = some (g, upA a 6 (upd (a 6) 8 (nI (eqm d)))) := by
  have hp : ∀ x : Nat, putF 9 (a 6) 8 (nI x) = upd (a 6) 8 (nI x) := fun x => put_in (i := 8) (by decide) (by decide)
  obtain ⟨n, hn⟩ : ∃ n, fu = n + 1 + 1 + 1 + 1 := ⟨999996, rfl⟩
  rw [hn]
  rcases hd with rfl | rfl
  · rw [e_X10_begin_19, h0, if_neg (by decide), e_X10_begin_19, h0, if_neg (by decide), e_X10_begin_19, h0, if_pos (by decide), ← hp]
    rfl
  · rw [e_X10_begin_19, h0, if_neg (by decide), e_X10_begin_19, h0, if_neg (by decide), e_X10_begin_19, h0, if_neg (by decide), e_X10_begin_19, h0, if_pos (by decide), ← hp]
    rfl
theorem beginAnew {d : Nat} (hd : d = 2 ∨ d = 3) (g : xG) (a : xA) : ∃ f2 f3 f5 f6, f_X11_beginAnew g a (nI d) = some (upd (upd (upd (upd (upd g 0 (nI d)) 1 0) 4 0) 14 1) 13 0, upA (upA (upA (upA a 2 f2) 3 f3) 5 f5) 6 f6) ∧ (∀ q, q < 7 → f2 q = nI (d ^ q)) ∧ (∀ q, q < 27 → f3 q = nI (sp d q)) ∧ f5 8 = nI 2 ∧ f6 8 = nI (eqm d) := by
  obtain ⟨f2, f3, e1, _, e3, e4⟩ := be9 hd 7 0 fu (upd g 0 (nI d)) a (by omega) (fu_gt (by omega))
  refine ⟨f2, f3, upd (a 5) 8 (nI 2), upd (a 6) 8 (nI (eqm d)), ?_, fun q hq => e3 q (Nat.zero_le _) hq, e4, upd_s .., upd_s ..⟩
  unfold f_X11_beginAnew f_X4_begin f_X10_begin
  rw [z0, z1, show f_X4_begin_9 fu (upd g 0 (nI d)) a (nI d) (nI 1) (nI 0) = _ from e1, Option.bind_some]
  have := b10 hd (g := upd (upd g 0 (nI d)) 1 (nI 0)) (a := upA (upA (upA a 2 f2) 3 f3) 5 (upd (a 5) 8 (nI 2))) (by rw [upd_n _ _ (by decide), upd_s])
  have hp : putF 9 (upA (upA a 2 f2) 3 f3 5) 8 2 = upd (a 5) 8 (nI 2) := by
    rw [upA_n _ _ (by decide), upA_n _ _ (by decide)]
    exact put_in (i := 8) (by decide) (by decide)
  dsimp only
  rw [hp, show f_X10_begin_19 fu (upd (upd g 0 (nI d)) 1 (nI 0)) (upA (upA (upA a 2 f2) 3 f3) 5 (upd (a 5) 8 (nI 2))) (nI 0) (nI 0) = _ from this, Option.bind_some]
  unfold t_X2_begin
  rw [upA_n _ _ (by decide), upA_n _ _ (by decide), upA_n _ _ (by decide)]
  rfl
theorem begin_C {d : Nat} (hd : d = 2 ∨ d = 3) {T : Nat} {ch : Nat → Nat} {g : xG} {a : xA} {gm gm' : xG} {am : xA} (hT : CT T ch g a gm am) {f2 f3 f5 f6 : Nat → Int32} (h2 : ∀ q, q < 7 → f2 q = nI (d ^ q)) (h3 : ∀ q, q < 27 → f3 q = nI (sp d q)) (h5 : f5 8 = nI 2) (h6 : f6 8 = nI (eqm d))
    (m0 : gm' 0 = nI d) (m1 : gm' 1 = 0) (m2 : gm' 2 = 0) (m3 : gm' 3 = gm 3) (m6 : gm' 6 = 1) (m7 : gm' 7 = 0) :
    Cpl (upd (upd (upd (upd (upd g 0 (nI d)) 1 0) 4 0) 14 1) 13 0) (upA (upA (upA (upA a 2 f2) 3 f3) 5 f5) 6 f6) gm' am := by
  refine ⟨d, 0, 0, T, 1, 0, fun _ => 0, fun _ => 0, fun _ => 0, ch, fun _ => 0, fun _ _ => 0, fun _ _ => 0, ⟨hd, ?_, fun i hi => ?_, fun i hi => ?_⟩, m0, ⟨Nat.zero_le _, ?_, m1, ?_, ?_, fun r hr => by omega⟩, ⟨Nat.zero_le _, ?_, m2, fun r hr => by omega⟩, CT_fr hT ?_ m3 ?_ rfl, ⟨Nat.le_refl _, by decide, Nat.zero_le _, ?_, m6, ?_, m7, fun r hr => by omega⟩⟩
  · rw [up2 (by decide) (by decide), up2 (by decide) (by decide), upd_s]
  · rw [upA_n _ _ (by decide), upA_n _ _ (by decide), upA_n _ _ (by decide), upA_s]
    exact h2 i hi
  · rw [upA_n _ _ (by decide), upA_n _ _ (by decide), upA_s]
    exact h3 i hi
  · rw [up2 (by decide) (by decide), upd_n _ _ (by decide), upd_s]
    rfl
  · rw [upA_n _ _ (by decide), upA_s]
    exact h5
  · rw [upA_s]
    exact h6
  · rw [up2 (by decide) (by decide), upd_s]
    rfl
  · rw [up2 (by decide) (by decide), up2 (by decide) (by decide), upd_n _ _ (by decide)]
  · rw [upA_n _ _ (by decide), upA_n _ _ (by decide), upA_n _ _ (by decide), upA_n _ _ (by decide)]
  · rw [upd_n _ _ (by decide), upd_s]
    rfl
  · rw [upd_s]
    rfl
theorem ob1_values : ob_values Cpl := by
  intro g a gm am v1 h
  have h8 : ∀ v, Cpl g a (upd gm 8 v) am := fun v => Cpl_8 h
  obtain ⟨d, R, K, T, V, C, pl, tu, ar, ch, cr, an, cv, hB, h0, hR, hK, hT, hI⟩ := h
  by_cases q : v1 < nI 2 ∨ nI 3 < v1
  · have hne : ∀ j, (j = 2 ∨ j = 3) → ¬ v1 = nI j := fun j hj e => by
      rw [e, nI_ltI (by omega) (by decide), nI_ltI (by decide) (by omega)] at q
      omega
    refine Or.inr ⟨(1, g, a), (0, upd gm 8 1), ?_, rfl, ?_, thr_8, h8 _⟩
    · unfold f_X11_values
      rw [if_neg (show ¬ v1 = 2 from hne 2 (Or.inl rfl)), if_neg (show ¬ v1 = 3 from hne 3 (Or.inr rfl))]
    · unfold t_X12_values
      rw [if_pos (show t_X12_in gm am v1 2 3 = 0 from in_0 q), if_neg (by rw [upd_s]; decide)]
  rcases tri v1 (lo := 2) (hi := 3) (by omega) (by decide) with q' | q' | ⟨j, q1, q2, rfl⟩
  · exact absurd (Or.inl q') q
  · exact absurd (Or.inr q') q
  have hj : j = 2 ∨ j = 3 := by omega
  obtain ⟨f2, f3, f5, f6, b1, b2, b3, b4, b5⟩ := beginAnew hj g a
  have hin : ¬ t_X12_in gm am (nI j) 2 3 = 0 := by
    rw [show t_X12_in gm am (nI j) 2 3 = 1 from in_1 (lo := 2) (hi := 3) q1 q2 (by omega)]
    decide
  have ex : f_X11_values g a (nI j) = f_X11_values_20 g a (nI j) := by
    unfold f_X11_values
    rcases hj with rfl | rfl
    · rw [if_pos (show nI 2 = 2 from rfl)]
    · rw [if_neg (show ¬ nI 3 = 2 by decide), if_pos (show nI 3 = 3 from rfl)]
  have hC := begin_C (gm' := upd (upd (upd (upd (upd (upd gm 8 0) 0 (nI j)) 1 0) 2 0) 6 1) 7 0) (g := g) (a := a) hj hT b2 b3 b4 b5 (by rw [up2 (by decide) (by decide), up2 (by decide) (by decide), upd_s]) (by rw [up2 (by decide) (by decide), upd_n _ _ (by decide), upd_s]) (by rw [up2 (by decide) (by decide), upd_s]) (by rw [up2 (by decide) (by decide), up2 (by decide) (by decide), up2 (by decide) (by decide)]) (by rw [upd_n _ _ (by decide), upd_s]) (by rw [upd_s])
  refine Or.inl ⟨(g 0, upd (upd (upd (upd (upd g 0 (nI j)) 1 0) 4 0) 14 1) 13 0, upA (upA (upA (upA a 2 f2) 3 f3) 5 f5) 6 f6), (upd gm 8 0 0, upd (upd (upd (upd (upd (upd gm 8 0) 0 (nI j)) 1 0) 2 0) 6 1) 7 0), ?_, ?_, ?_, ?_, hC⟩
  · rw [ex]
    unfold f_X11_values_20
    rw [b1, Option.bind_some]
  · unfold t_X12_values
    rw [if_neg hin, if_pos (le00 (by decide))]
  · show upd (upd (upd (upd (upd (upd gm 8 0) 0 (nI j)) 1 0) 2 0) 6 1) 7 0 8 = 0
    rw [up2 (by decide) (by decide), up2 (by decide) (by decide), upd_n _ _ (by decide), upd_s]
  · show g 0 = upd gm 8 0 0
    rw [upd_n _ _ (by decide), hB.2.1, h0]
theorem ob1_begin : ∃ res : xG × xA, f_X11_beginAnew g0X a0X 2 = some res ∧ Cpl res.1 res.2 g0M a0M := by
  obtain ⟨f2, f3, f5, f6, b1, b2, b3, b4, b5⟩ := beginAnew (Or.inl rfl) g0X a0X
  exact ⟨_, b1, begin_C (T := 0) (ch := fun _ => 0) (gm := g0M) (Or.inl rfl) ⟨Nat.zero_le _, rfl, rfl, fun i hi => by omega⟩ b2 b3 b4 b5 rfl rfl rfl rfl rfl rfl⟩
