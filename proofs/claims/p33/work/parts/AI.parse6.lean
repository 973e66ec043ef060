/-! What is typed, read: all atoms, and the whole. -/
def ATZ (d R C : Nat) (pl tu cr : Nat → Nat) (cv : Nat → Nat → Nat) (g : xG) (a : xA) (gm : xG) (am : xA) : Prop := IZ d C pl tu cr cv g a ∧ gm 5 = nI C ∧ ∀ c, c < C → (cr c < R ∨ cr c = 8) ∧ am 7 c = relM (cr c) ∧ ∀ j, j < plx pl (cr c) → am 8 (3 * c + j) = nI (cv c j)
theorem back100 (q : Nat) : (100 : Int32) + nI q - 100 = nI q := by rw [Int32.add_comm, Int32.add_sub_cancel]
theorem ge100 {q : Nat} (h : q ≤ 60) : (100 : Int32) ≤ 100 + nI q := by
  rw [show (100 : Int32) = nI 100 from rfl, nI_add]
  exact nI_le (by omega) (by omega)
theorem rd10 {q n : Nat} {gm : xG} {am : xA} (h : q ≤ 60) : f_X12_reads_10 (n + 1) gm am (100 + nI q) = some (nI q, gm, am) := by
  rw [e_X12_reads_10, if_pos (ge100 h), back100]
theorem SmM5 {g g' : xG} {a a' : xA} (h : Sm [5] [7, 8] g a g' a') : SmM g a g' a' := SmM_of (P := [5]) (Q := [7, 8]) h
theorem atoms {d R T : Nat} {pl tu ch : Nat → Nat} : ∀ (r p n n' C : Nat) (cr : Nat → Nat) (cv : Nat → Nat → Nat) (g : xG) (a : xA) (gm : xG) (am : xA), T ≤ p + r → p ≤ T → T < p + n → T + 2 < p + n' → 2 + 4 * C ≤ p → PZ d R T pl tu ch g a gm am → g 8 = nI 1 → ATZ d R C pl tu cr cv g a gm am →
    (∃ (q : Nat) (g' : xG) (a' : xA) (gm' : xG) (am' : xA), q ≤ T ∧ f_X1_read_21 n g a (nI p) = some (nI q, g', a') ∧ f_X12_reads_10 n' gm am (nI p) = some (nI q, gm', am') ∧ Sm P1 Q1 g a g' a' ∧ Sm [5] [7, 8] gm am gm' am') ∨
    (∃ (C' : Nat) (cr' : Nat → Nat) (cv' : Nat → Nat → Nat) (g' : xG) (a' : xA) (gm' : xG) (am' : xA), f_X1_read_21 n g a (nI p) = some (-1, g', a') ∧ f_X12_reads_10 n' gm am (nI p) = some (-1, gm', am') ∧ Sm P1 Q1 g a g' a' ∧ Sm [5] [7, 8] gm am gm' am' ∧ 1 ≤ C' ∧ C' ≤ 15 ∧ ATZ d R C' pl tu cr' cv' g' a' gm' am') := by
  intro r
  induction r with
  | zero =>
    intro p n n' C cr cv g a gm am hr hp hn hn' hC hP h8 hA
    have hT := hP.2.2.1
    obtain ⟨n', rfl⟩ := pos_of (show 0 < n' by omega)
    obtain ⟨n', rfl⟩ := pos_of (show 0 < n' by omega)
    rw [e_X12_reads_10, if_neg (show ¬ (100 : Int32) ≤ nI p from nI_ge (a := p) (b := 100) (by omega) (by decide))]
    rcases atZ hP (by omega) hA.2.1 hp hn h8 hA.1 with ⟨q, g', a', am', w1, w2, w3, w4, w5⟩ | ⟨q, m, r', x, g', a', am', w0, w1, w2, w3, w4⟩
    · rw [w3, Option.bind_some, if_pos (ge100 (by omega)), rd10 (by omega)]
      exact Or.inl ⟨q, g', a', gm, am', w1, w2, rfl, w4, Sm_mo w5 (by decide) (by decide)⟩
    · omega
  | succ r ih =>
    intro p n n' C cr cv g a gm am hr hp hn hn' hC hP h8 hA
    have hT := hP.2.2.1
    obtain ⟨n', rfl⟩ := pos_of (show 0 < n' by omega)
    obtain ⟨n', rfl⟩ := pos_of (show 0 < n' by omega)
    rw [e_X12_reads_10, if_neg (show ¬ (100 : Int32) ≤ nI p from nI_ge (a := p) (b := 100) (by omega) (by decide))]
    rcases atZ hP (by omega) hA.2.1 hp hn h8 hA.1 with ⟨q, g', a', am', w1, w2, w3, w4, w5⟩ | ⟨q, m, r', x, g', a', am', w0, w1, w2, wr, w3, w4, w5, w6, w7, w8, w9, w10, w11⟩
    · rw [w3, Option.bind_some, if_pos (ge100 (by omega)), rd10 (by omega)]
      exact Or.inl ⟨q, g', a', gm, am', w1, w2, rfl, w4, Sm_mo w5 (by decide) (by decide)⟩
    · obtain ⟨m, rfl⟩ : ∃ k, m = k + 1 := pos_of (r := 0) (by omega)
      rw [w3, w4, Option.bind_some, if_neg (show ¬ (100 : Int32) ≤ nI q from nI_ge (a := q) (b := 100) (by omega) (by decide)), hA.2.1, nI_1]
      have s2 : Sm [5] [7, 8] gm am (upd gm 5 (nI (C + 1))) am' := Sm_G (Sm_mo w6 (by decide) (by decide)) (by decide)
      have hP2 := PZ_fr hP (SmPA w5) (SmM5 s2)
      have hA2 : ATZ d R (C + 1) pl tu (nup cr C r') (CVZ C cv x) g' a' (upd gm 5 (nI (C + 1))) am' := by
        refine ⟨w8, upd_s .., fun c hc => ?_⟩
        rw [w9]
        by_cases z : c = C
        · rw [z, nup_s, upd_s]
          refine ⟨wr, rfl, fun j hj => ?_⟩
          rw [w11 j hj]
          show _ = nI ((if C = C then x else cv C) j)
          rw [if_pos rfl]
        · obtain ⟨y1, y2, y3⟩ := hA.2.2 c (by omega)
          rw [nup_n _ _ z, upd_n _ _ z]
          refine ⟨y1, y2, fun j hj => ?_⟩
          have hj3 : j < 3 := by
            have := (hP.2.2.2.2.2.2.2.2.2.2.1 (cr c) y1).2.2.2.1
            have := hP.1
            omega
          rw [w10 (3 * c + j) (by omega), y3 j hj]
          show _ = nI ((if c = C then x else cv c) j)
          rw [if_neg z]
      rw [show (upd gm 5 (nI (C + 1))) 3 = nI T from hP2.2.2.2.2.2.2.2.2.1]
      by_cases z : q = T
      · subst z
        rw [if_pos rfl, rd_end hP2 w7 (by decide), if_pos rfl]
        exact Or.inr ⟨C + 1, _, _, g', a', _, am', rfl, rfl, w5, s2, by omega, by omega, hA2⟩
      · rw [if_neg (fun e => z ((nI_eq (by omega) (by omega)).mp e)), sg_M hP2 (show q < T by omega), Option.bind_some, rd_just (x := 38) (y := 1) hP2 (show q < T by omega) (Or.inr (Or.inr (Or.inr (Or.inr ⟨rfl, rfl, rfl⟩)))) w7]
        by_cases z2 : ch q = 38
        · rw [if_pos z2, if_pos (show nI (ch q) = 38 by rw [z2]; rfl), nI_1]
          have s3 : Sm P1 Q1 g a (upd g' 8 (nI 1)) a' := Sm_tr w5 (Sm_G Sm_rfl (by decide))
          rcases ih (q + 1) m (n' + 1) (C + 1) (nup cr C r') (CVZ C cv x) (upd g' 8 (nI 1)) a' (upd gm 5 (nI (C + 1))) am' (by omega) (by omega) (by omega) (by omega) (by omega) (PZ_fr hP (SmPA s3) (SmM5 s2)) (upd_s ..) ⟨IZ_fr hA2.1 rfl rfl rfl rfl rfl rfl rfl, hA2.2⟩ with ⟨q', g2, a2, gm2, am2, y1, y2, y3, y4, y5⟩ | ⟨C', cr', cv', g2, a2, gm2, am2, y1, y2, y3, y4, y5⟩
          · exact Or.inl ⟨q', g2, a2, gm2, am2, y1, y2, y3, Sm_tr s3 y4, Sm_tr s2 y5⟩
          · exact Or.inr ⟨C', cr', cv', g2, a2, gm2, am2, y1, y2, Sm_tr s3 y3, Sm_tr s2 y4, y5⟩
        · rw [if_neg z2, if_neg (show ¬ nI (ch q) = 38 from fun e => z2 ((nI_eq (b := 38) (by have := sgn_lt (hP.2.2.2.2.2.2.2.2.2.1 q (show q < T by omega)).2.2; omega) (by decide)).mp e)), rd10 (by omega)]
          exact Or.inl ⟨q, _, a', _, am', by omega, rfl, rfl, Sm_tr w5 (Sm_G Sm_rfl (by decide)), s2⟩
theorem readZ {d R T : Nat} {pl tu ch : Nat → Nat} {g : xG} {a : xA} {gm : xG} {am : xA} (hP : PZ d R T pl tu ch g a gm am) :
    (∃ (q : Nat) (g' : xG) (a' : xA) (gm' : xG) (am' : xA), q ≤ T ∧ f_X1_read g a = some (nI q, g', a') ∧ f_X12_reads gm am = some (nI q, gm', am') ∧ Sm PX QX g a g' a' ∧ SmM gm am gm' am') ∨
    (∃ (k : Nat) (hd : Nat → Nat) (C : Nat) (cr : Nat → Nat) (cv : Nat → Nat → Nat) (g' : xG) (a' : xA) (gm' : xG) (am' : xA), f_X1_read g a = some (-1, g', a') ∧ f_X12_reads gm am = some (-1, gm', am') ∧ Sm PX QX g a g' a' ∧ SmM gm am gm' am' ∧ 1 ≤ k ∧ HDZ d k hd g' a' gm' am' ∧ 1 ≤ C ∧ C ≤ 15 ∧ ATZ d R C pl tu cr cv g' a' gm' am') := by
  have hd2 := hP.1
  have hT := hP.2.2.1
  obtain ⟨g0, hg0⟩ : ∃ g0, g0 = t_X2_begin 0 (upd (upd g 8 0) 7 0) a 6 := ⟨_, rfl⟩
  have s0 : Sm PX QX g a g0 a := by
    rw [hg0]
    exact Sm_G (Sm_G (Sm_G (Sm_G Sm_rfl (by decide)) (by decide)) (by decide)) (by decide)
  have m0 : SmM gm am (upd (upd gm 5 0) 4 0) am := SmM_of (P := [4, 5]) (Q := []) (Sm_G (Sm_G Sm_rfl (by decide)) (by decide))
  have hP0 := PZ_fr hP s0 m0
  have eX : f_X1_read g a = f_X1_read_21 fu g0 a (nI 0) := by rw [hg0]; rfl
  have eM : f_X12_reads gm am = Option.bind (f_X12_readsHead_7 fu (upd (upd gm 5 0) 4 0) am (nI 0)) (fun u1 => f_X12_reads_10 fu u1.2.1 u1.2.2 u1.1) := rfl
  rw [eX, eM]
  rcases headT T 0 fu fu 0 (fun _ => 0) g0 a (upd (upd gm 5 0) 4 0) am (by omega) (fu_gt (by omega)) (fu_gt (by omega)) hP0 (by rw [hg0]; rfl) ⟨by omega, by rw [hg0]; rfl, rfl, fun i hi => by omega, fun i j _ hj => by omega⟩ (by rw [hg0]; rfl) (by rw [hg0]; rfl) rfl (by omega) with ⟨q, g', a', gm', am', w1, w2, w3, w4, w5⟩ | ⟨q, m, k', hd', g', a', gm', am', w1, w2, w3, w4, w5, w6, w7, w8, w9, w10, w11, w12, w13⟩
  · rw [w3, Option.bind_some]
    obtain ⟨n, hn⟩ : ∃ n, fu = n + 1 := pos_of (fu_gt (k := 0) (by decide))
    refine Or.inl ⟨q, g', a', gm', am', w1, w2, ?_, Sm_tr s0 w4, SmM_tr m0 w5⟩
    show f_X12_reads_10 fu gm' am' (100 + nI q) = _
    rw [hn, rd10 (by omega)]
  · rw [w5, w4, Option.bind_some]
    have hP1 := PZ_fr hP0 w6 w7
    rcases atoms T q m fu 0 (fun _ => 0) (fun _ _ => 0) g' a' gm' am' (by omega) w1 w2 (by have := fu_gt (k := 200) (by decide); omega) (by omega) hP1 w8 ⟨⟨by decide, by decide, by omega, w11, w12, fun c hc => by omega⟩, w13, fun c hc => by omega⟩ with ⟨q', g2, a2, gm2, am2, y1, y2, y3, y4, y5⟩ | ⟨C', cr', cv', g2, a2, gm2, am2, y1, y2, y3, y4, y5, y6, y7⟩
    · exact Or.inl ⟨q', g2, a2, gm2, am2, y1, y2, y3, Sm_tr s0 (Sm_tr w6 (SmPA y4)), SmM_tr m0 (SmM_tr w7 (SmM5 y5))⟩
    · exact Or.inr ⟨k', hd', C', cr', cv', g2, a2, gm2, am2, y1, y2, Sm_tr s0 (Sm_tr w6 (SmPA y3)), SmM_tr m0 (SmM_tr w7 (SmM5 y4)), w9, HDZ_fr w10 (y3.1 7 (by decide)) (y4.1 4 (by decide)) (y3.2 22 (by decide)) (y4.2 6 (by decide)), y5, y6, y7⟩
theorem ob1_fault : ob_fault Cpl := by
  intro g a gm am h
  have h' := h
  obtain ⟨d, R, K, T, V, C, pl, tu, ar, ch, cr, an, cv, hB, h0, hR, hK, hT, hI⟩ := h
  have hP := PZ_of hB h0 hR hT
  unfold f_X11_fault f_X12_fault
  rcases readZ (PZ_fr hP Sm_rfl (SmM_8 (v := 0))) with ⟨q, g', a', gm', am', w1, w2, w3, w4, w5⟩ | ⟨k, hd, C', cr', cv', g', a', gm', am', w2, w3, w4, w5, _⟩
  · rw [w2, w3]
    exact ⟨_, _, rfl, rfl, rfl, Cpl_fr h' w4 (SmM_tr SmM_8 w5)⟩
  · rw [w2, w3]
    exact ⟨_, _, rfl, rfl, rfl, Cpl_fr h' w4 (SmM_tr SmM_8 w5)⟩
