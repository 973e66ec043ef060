/-! Calls that change what is told: wipe, instance, relation, tuple, ofRelation. -/
theorem Bas_fr {d : Nat} {g g' : xG} {a a' : xA} (h : Bas d g a) (h0 : g' 0 = g 0) (h2 : a' 2 = a 2) (h3 : a' 3 = a 3) : Bas d g' a' :=
  ⟨h.1, h0.trans h.2.1, fun i hi => (congrFun h2 i).trans (h.2.2.1 i hi), fun i hi => (congrFun h3 i).trans (h.2.2.2 i hi)⟩
theorem CR_fr {d R : Nat} {pl tu : Nat → Nat} {g g' : xG} {a a' : xA} {gm gm' : xG} {am am' : xA} (h : CR d R pl tu g a gm am) (h1 : g' 1 = g 1) (h2 : gm' 1 = gm 1) (h3 : a' 5 = a 5) (h4 : a' 6 = a 6) (h5 : am' 1 = am 1) (h6 : am' 2 = am 2) : CR d R pl tu g' a' gm' am' := by
  unfold CR at *
  rw [h1, h2, h3, h4, h5, h6]
  exact h
theorem CK_fr {d K : Nat} {ar : Nat → Nat} {an : Nat → Nat → Nat} {g g' : xG} {a a' : xA} {gm gm' : xG} {am am' : xA} (h : CK d K ar an g a gm am) (h1 : g' 4 = g 4) (h2 : gm' 2 = gm 2) (h3 : ∀ k, k < 6 → g' (15 + k) = g (15 + k)) (h4 : ∀ k, k < 6 → a' (47 + k) = a (47 + k)) (h5 : am' 3 = am 3) (h6 : am' 4 = am 4) : CK d K ar an g' a' gm' am' := by
  refine ⟨h.1, h1.trans h.2.1, h2.trans h.2.2.1, fun k hk => ?_⟩
  obtain ⟨q1, q2, q3⟩ := h.2.2.2 k hk
  have hk6 : k < 6 := Nat.lt_of_lt_of_le hk h.1
  unfold Opr OpM at *
  rw [h3 k hk6, h4 k hk6, h5, h6]
  exact ⟨q1, q2, q3⟩
theorem CT_fr {T : Nat} {ch : Nat → Nat} {g g' : xG} {a a' : xA} {gm gm' : xG} {am am' : xA} (h : CT T ch g a gm am) (h1 : g' 6 = g 6) (h2 : gm' 3 = gm 3) (h3 : a' 20 = a 20) (h4 : am' 5 = am 5) : CT T ch g' a' gm' am' := by
  unfold CT at *
  rw [h1, h2, h3, h4]
  exact h
theorem CI_fr {R V C R' : Nat} {pl cr pl' : Nat → Nat} {cv : Nat → Nat → Nat} {g g' : xG} {a a' : xA} {gm gm' : xG} {am am' : xA} (h : CI R V C pl cr cv g a gm am) (hR : R ≤ R') (hp : ∀ r, r < R → pl' r = pl r) (h1 : g' 14 = g 14) (h2 : g' 13 = g 13) (h3 : gm' 6 = gm 6) (h4 : gm' 7 = gm 7) (h5 : a' 32 = a 32) (h6 : a' 33 = a 33) (h7 : a' 34 = a 34) (h8 : a' 35 = a 35) (h9 : am' 9 = am 9) (h10 : am' 10 = am 10) : CI R' V C pl' cr cv g' a' gm' am' := by
  unfold CI at *
  rw [h1, h2, h3, h4, h5, h6, h7, h8, h9, h10]
  refine ⟨h.1, h.2.1, h.2.2.1, h.2.2.2.1, h.2.2.2.2.1, h.2.2.2.2.2.1, h.2.2.2.2.2.2.1, fun c hc => ?_⟩
  obtain ⟨q1, q2⟩ := h.2.2.2.2.2.2.2 c hc
  rw [hp _ q1]
  exact ⟨by omega, q2⟩
theorem up2 {g : xG} {r s j : Nat} {x y : Int32} (h1 : j ≠ r) (h2 : j ≠ s) : upd (upd g r x) s y j = g j := by rw [upd_n _ _ h2, upd_n _ _ h1]
theorem ob1_wipe : ob_wipe Cpl := by
  intro g a gm am h
  obtain ⟨d, R, K, T, V, C, pl, tu, ar, ch, cr, an, cv, hB, h0, hR, hK, hT, hI⟩ := h
  refine ⟨_, _, rfl, rfl, ?_, ⟨d, R, K, 0, V, C, pl, tu, ar, ch, cr, an, cv, ?_⟩⟩
  · show g 6 = upd gm 8 0 3
    rw [upd_n _ _ (by decide), hT.2.1, hT.2.2.1]
  · show Bas d (upd g 6 0) a ∧ upd (upd gm 8 0) 3 0 0 = nI d ∧ CR d R pl tu (upd g 6 0) a (upd (upd gm 8 0) 3 0) am ∧ CK d K ar an (upd g 6 0) a (upd (upd gm 8 0) 3 0) am ∧ CT 0 ch (upd g 6 0) a (upd (upd gm 8 0) 3 0) am ∧ CI R V C pl cr cv (upd g 6 0) a (upd (upd gm 8 0) 3 0) am
    have hg : ∀ j, j ≠ 6 → upd g 6 0 j = g j := fun j hj => upd_n _ _ hj
    have hm : ∀ j, j ≠ 8 → j ≠ 3 → upd (upd gm 8 0) 3 0 j = gm j := fun j h1 h2 => up2 h1 h2
    exact ⟨Bas_fr hB (hg _ (by decide)) rfl rfl, (hm _ (by decide) (by decide)).trans h0, CR_fr hR (hg _ (by decide)) (hm _ (by decide) (by decide)) rfl rfl rfl rfl, CK_fr hK (hg _ (by decide)) (hm _ (by decide) (by decide)) (fun k hk => hg _ (by omega)) (fun _ _ => rfl) rfl rfl, ⟨Nat.zero_le _, upd_s .., upd_s .., fun i hi => by omega⟩, CI_fr hI (Nat.le_refl _) (fun _ _ => rfl) (hg _ (by decide)) (hg _ (by decide)) (hm _ (by decide) (by decide)) (hm _ (by decide) (by decide)) rfl rfl rfl rfl rfl rfl⟩
theorem le00 {gm : xG} {v : Int32} (h : v ≤ 0) : upd gm 8 v 8 ≤ 0 := by rw [upd_s]; exact h
/-- out of a range, as both sides ask it -/
theorem out_ {v : Int32} {lo hi : Nat} (hlo : lo ≤ hi) (hh : hi < 2 ^ 30) (h : v < nI lo ∨ nI hi < v) : v < nI lo ∨ (¬ v < nI lo ∧ ¬ v ≤ nI hi ∧ nI hi < v) := by
  rcases h with h | h
  · exact Or.inl h
  · rcases vcase v with h1 | ⟨j, hj, rfl⟩
    · exact absurd h (neg_nlt h1 (by omega))
    · rw [nI_ltI (by omega) hj] at h
      exact Or.inr ⟨nI_nlt (by omega) hj, nI_ge h hj, nI_lt h hj⟩
theorem ob1_instance : ob_instance Cpl := by
  intro g a gm am v1 h
  have h8 : ∀ v, Cpl g a (upd gm 8 v) am := fun v => Cpl_8 h
  obtain ⟨d, R, K, T, V, C, pl, tu, ar, ch, cr, an, cv, hB, h0, hR, hK, hT, hI⟩ := h
  have hbad : (v1 < nI 1 ∨ nI 6 < v1) → t_X12_instance gm am v1 = (0, upd gm 8 1) := fun q => by
    unfold t_X12_instance
    rw [if_pos (show t_X12_in gm am v1 1 6 = 0 from in_0 q), if_neg (by rw [upd_s]; decide)]
  by_cases q : v1 < nI 1 ∨ nI 6 < v1
  · refine Or.inr ⟨(1, g), (0, upd gm 8 1), ?_, rfl, hbad q, thr_8, h8 1⟩
    unfold f_X11_instance
    rcases out_ (by decide) (by decide) q with q | ⟨q1, q2, _⟩
    · rw [if_pos (show v1 < 1 from q)]
      rfl
    · rw [if_neg (show ¬ v1 < 1 from q1), if_neg (show ¬ v1 ≤ 6 from q2)]
      rfl
  · rcases tri v1 (lo := 1) (hi := 6) (by decide) (by decide) with q' | q' | ⟨j, q1, q2, rfl⟩
    · exact absurd (Or.inl q') q
    · exact absurd (Or.inr q') q
    refine Or.inl ⟨(g 13, t_X2_begin 1 g a (nI j)), (upd gm 8 0 7, upd (upd (upd gm 8 0) 6 (nI j)) 7 0), ?_, ?_, ?_, ?_, ?_⟩
    · unfold f_X11_instance
      rw [if_neg (show ¬ nI j < 1 from nI_nlt (a := j) (b := 1) q1 (by omega)), if_pos (show nI j ≤ 6 from nI_le (a := j) (b := 6) q2 (by decide))]
    · unfold t_X12_instance
      rw [if_neg (show ¬ t_X12_in gm am (nI j) 1 6 = 0 by rw [show t_X12_in gm am (nI j) 1 6 = 1 from in_1 (lo := 1) (hi := 6) q1 q2 (by decide)]; decide), if_pos (le00 (by decide))]
    · show upd (upd (upd gm 8 0) 6 (nI j)) 7 0 8 = 0
      rw [up2 (by decide) (by decide), upd_s]
    · show g 13 = upd gm 8 0 7
      rw [upd_n _ _ (by decide), hI.2.2.2.2.2.1, hI.2.2.2.2.2.2.1]
    · have hg : ∀ i, i ≠ 14 → i ≠ 13 → t_X2_begin 1 g a (nI j) i = g i := fun i h1 h2 => up2 h1 h2
      have hm : ∀ i, i ≠ 8 → i ≠ 6 → i ≠ 7 → upd (upd (upd gm 8 0) 6 (nI j)) 7 0 i = gm i := fun i h1 h2 h3 => by rw [up2 h2 h3, upd_n _ _ h1]
      have e14 : t_X2_begin 1 g a (nI j) 14 = nI j := (upd_n _ _ (by decide)).trans (upd_s ..)
      have e13 : t_X2_begin 1 g a (nI j) 13 = nI 0 := upd_s ..
      show Cpl (t_X2_begin 1 g a (nI j)) a (upd (upd (upd gm 8 0) 6 (nI j)) 7 0) am
      refine ⟨d, R, K, T, j, 0, pl, tu, ar, ch, cr, an, cv, Bas_fr hB (hg _ (by decide) (by decide)) rfl rfl, (hm _ (by decide) (by decide) (by decide)).trans h0, CR_fr hR (hg _ (by decide) (by decide)) (hm _ (by decide) (by decide) (by decide)) rfl rfl rfl rfl, CK_fr hK (hg _ (by decide) (by decide)) (hm _ (by decide) (by decide) (by decide)) (fun k hk => hg _ (by omega) (by omega)) (fun _ _ => rfl) rfl rfl, CT_fr hT (hg _ (by decide) (by decide)) (hm _ (by decide) (by decide) (by decide)) rfl rfl, q1, q2, Nat.zero_le _, e14, (upd_n _ _ (by decide)).trans (upd_s ..), e13, upd_s .., fun c hc => by omega⟩
theorem wid {d : Nat} {g : xG} {a : xA} (hB : Bas d g a) : t_X4_widest g a = nI (5 - d) := by
  unfold t_X4_widest
  rw [hB.2.1]
  rcases hB.1 with rfl | rfl
  · rw [if_pos (show nI 2 = 2 from rfl)]; rfl
  · rw [if_neg (show ¬ nI 3 = 2 by decide)]; rfl
theorem rel_m {d : Nat} {gm : xG} {am : xA} {v : Int32} (h0 : gm 0 = nI d) (hd : d = 2 ∨ d = 3) : f_X12_relation gm am v = f_X12_relation_16 gm am v (nI (5 - d)) 1 v := by
  unfold f_X12_relation
  rw [h0]
  rcases hd with rfl | rfl
  · rw [if_pos (show nI 2 = 2 from rfl)]; rfl
  · rw [if_neg (show ¬ nI 3 = 2 by decide)]; rfl
theorem ob1_relation : ob_relation Cpl := by
  intro g a gm am v1 h
  have h8 : ∀ v, Cpl g a (upd gm 8 v) am := fun v => Cpl_8 h
  obtain ⟨d, R, K, T, V, C, pl, tu, ar, ch, cr, an, cv, hB, h0, hR, hK, hT, hI⟩ := h
  have hd := hB.1
  have hbad : ∀ s : Nat, s ≠ 0 → s < 4 → f_X12_relation_40 gm am v1 (nI s) = some (0, upd gm 8 (nI s), am) := fun s hs h4 => by
    unfold f_X12_relation_40
    rw [if_neg (by rw [upd_s]; exact nI_nle (by omega) (by omega))]
  by_cases q : v1 < nI 1 ∨ nI (5 - d) < v1
  · refine Or.inr (Or.inl ⟨(1, g, a), (0, upd gm 8 (nI 1), am), ?_, rfl, ?_, thr_8, h8 _⟩)
    · unfold f_X11_relation
      rcases out_ (by omega) (by omega) q with q' | ⟨q3, q4, _⟩
      · rw [if_pos (show v1 < 1 from q')]
        rfl
      · rw [if_neg (show ¬ v1 < 1 from q3), wid hB, if_neg q4]
        rfl
    · rw [rel_m h0 hd]
      unfold f_X12_relation_16
      rw [if_pos (show t_X12_in gm am v1 1 (nI (5 - d)) = 0 from in_0 q)]
      exact hbad 1 (by decide) (by decide)
  rcases tri v1 (lo := 1) (hi := 5 - d) (by omega) (by decide) with q' | q' | ⟨j, q1, q2, rfl⟩
  · exact absurd (Or.inl q') q
  · exact absurd (Or.inr q') q
  · have hin : ¬ t_X12_in gm am (nI j) 1 (nI (5 - d)) = 0 := by
      rw [show t_X12_in gm am (nI j) 1 (nI (5 - d)) = 1 from in_1 (lo := 1) q1 q2 (by omega)]
      decide
    have hc1 : ¬ nI j < 1 := nI_nlt (a := j) (b := 1) q1 (by omega)
    have hc2 : nI j ≤ t_X4_widest g a := by rw [wid hB]; exact nI_le q2 (by omega)
    have hR8 := hR.1
    by_cases hfull : R = 8
    · refine Or.inr (Or.inr ⟨(2, g, a), (0, upd gm 8 (nI 2), am), ?_, rfl, ?_, thr_8, h8 _⟩)
      · unfold f_X11_relation
        rw [if_neg hc1, if_pos hc2, hR.2.1, hfull, if_neg (show ¬ nI 8 < 8 by decide)]
      · rw [rel_m h0 hd]
        unfold f_X12_relation_16
        rw [if_neg hin, hR.2.2.1, hfull, if_pos (show nI 8 = 8 from rfl)]
        exact hbad 2 (by decide) (by decide)
    · have hRl : R < 8 := by omega
      refine Or.inl ⟨(nI R, upd g 1 (nI (R + 1)), upA (upA a 5 (upd (a 5) R (nI j))) 6 (upd (a 6) R 0)), (nI R, upd (upd gm 8 0) 1 (nI (R + 1)), upA (upA am 1 (upd (am 1) R (nI j))) 2 (upd (am 2) R 0)), ?_, ?_, ?_, rfl, ?_⟩
      · unfold f_X11_relation
        rw [if_neg hc1, if_pos hc2, hR.2.1, if_pos (show nI R < 8 from nI_lt (a := R) (b := 8) hRl (by decide))]
        unfold f_X10_add
        rw [hR.2.1, put_in (by omega) (by decide), upA_n _ _ (by decide), put_in (by omega) (by decide), Option.bind_some, show nI R + 1 = nI (R + 1) from nI_1 R]
      · rw [rel_m h0 hd]
        unfold f_X12_relation_16
        rw [if_neg hin, hR.2.2.1, if_neg (show ¬ nI R = 8 from fun e => hfull ((nI_eq (b := 8) (by omega) (by decide)).mp e))]
        unfold f_X12_relation_40
        rw [if_pos (le00 (by decide)), upd_n _ _ (by decide), hR.2.2.1, ck_t (inB_t hRl (by decide)), ck_t (inB_t hRl (by decide)), nI_clamp (by omega), upA_n _ _ (by decide), upd_s, show nI R + 1 = nI (R + 1) from nI_1 R, nI_pred]
      · show upd (upd gm 8 0) 1 (nI (R + 1)) 8 = 0
        rw [upd_n _ _ (by decide), upd_s]
      · have hg : ∀ i, i ≠ 1 → upd g 1 (nI (R + 1)) i = g i := fun i h1 => upd_n _ _ h1
        have hm : ∀ i, i ≠ 8 → i ≠ 1 → upd (upd gm 8 0) 1 (nI (R + 1)) i = gm i := fun i h1 h2 => up2 h1 h2
        have ha : ∀ i, i ≠ 5 → i ≠ 6 → upA (upA a 5 (upd (a 5) R (nI j))) 6 (upd (a 6) R 0) i = a i := fun i h1 h2 => by rw [upA_n _ _ h2, upA_n _ _ h1]
        have hb : ∀ i, i ≠ 1 → i ≠ 2 → upA (upA am 1 (upd (am 1) R (nI j))) 2 (upd (am 2) R 0) i = am i := fun i h1 h2 => by rw [upA_n _ _ h2, upA_n _ _ h1]
        show Cpl (upd g 1 (nI (R + 1))) (upA (upA a 5 (upd (a 5) R (nI j))) 6 (upd (a 6) R 0)) (upd (upd gm 8 0) 1 (nI (R + 1))) (upA (upA am 1 (upd (am 1) R (nI j))) 2 (upd (am 2) R 0))
        refine ⟨d, R + 1, K, T, V, C, fun r => if r = R then j else pl r, fun r => if r = R then 0 else tu r, ar, ch, cr, an, cv, Bas_fr hB (hg _ (by decide)) (ha _ (by decide) (by decide)) (ha _ (by decide) (by decide)), (hm _ (by decide) (by decide)).trans h0, ⟨by omega, upd_s .., upd_s .., ?_, ?_, fun r hr => ?_⟩, CK_fr hK (hg _ (by decide)) (hm _ (by decide) (by decide)) (fun k hk => hg _ (by omega)) (fun k hk => ha _ (by omega) (by omega)) (hb _ (by decide) (by decide)) (hb _ (by decide) (by decide)), CT_fr hT (hg _ (by decide)) (hm _ (by decide) (by decide)) (ha _ (by decide) (by decide)) (hb _ (by decide) (by decide)), CI_fr hI (by omega) (fun r hr => if_neg (by omega)) (hg _ (by decide)) (hg _ (by decide)) (hm _ (by decide) (by decide)) (hm _ (by decide) (by decide)) (ha _ (by decide) (by decide)) (ha _ (by decide) (by decide)) (ha _ (by decide) (by decide)) (ha _ (by decide) (by decide)) (hb _ (by decide) (by decide)) (hb _ (by decide) (by decide))⟩
        · show upA (upA a 5 (upd (a 5) R (nI j))) 6 (upd (a 6) R 0) 5 8 = nI 2
          rw [upA_n _ _ (by decide), upA_s, upd_n _ _ (by omega)]
          exact hR.2.2.2.1
        · show upA (upA a 5 (upd (a 5) R (nI j))) 6 (upd (a 6) R 0) 6 8 = nI (eqm d)
          rw [upA_s, upd_n _ _ (by omega)]
          exact hR.2.2.2.2.1
        · show upA (upA a 5 (upd (a 5) R (nI j))) 6 (upd (a 6) R 0) 5 r = nI (if r = R then j else pl r) ∧ upA (upA am 1 (upd (am 1) R (nI j))) 2 (upd (am 2) R 0) 1 r = nI (if r = R then j else pl r) ∧ upA (upA a 5 (upd (a 5) R (nI j))) 6 (upd (a 6) R 0) 6 r = nI (if r = R then 0 else tu r) ∧ upA (upA am 1 (upd (am 1) R (nI j))) 2 (upd (am 2) R 0) 2 r = nI (if r = R then 0 else tu r) ∧ _
          dsimp only
          rw [upA_s, upA_s, upA_n _ _ (by decide), upA_s, upA_n _ _ (by decide), upA_s]
          by_cases hr2 : r = R
          · rw [if_pos hr2, if_pos hr2, hr2, upd_s, upd_s, upd_s, upd_s]
            exact ⟨rfl, rfl, rfl, rfl, q1, by omega, Nat.two_pow_pos _⟩
          · rw [if_neg hr2, if_neg hr2, upd_n _ _ hr2, upd_n _ _ hr2, upd_n _ _ hr2, upd_n _ _ hr2]
            exact hR.2.2.2.2.2 r (by omega)
