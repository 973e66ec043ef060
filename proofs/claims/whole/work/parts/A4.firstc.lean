/-! first: the call. -/
theorem pq_3 {k : Nat} (h1 : ∀ q, q < 3 → pIdem 3 2 (dg 3 k) q) (h2 : ∀ q, q < 9 → pSym 3 2 (dg 3 k) q) (hk : k < 3 ^ 9) : ∃ c, c < 27 ∧ k = nm 3 (TS 3 c) 9 := by
  have b : ∀ q, dg 3 k q < 3 := fun q => dg_lt (by decide) _ _
  have hc : nm 3 (fun i => if i = 0 then dg 3 k 3 else if i = 1 then dg 3 k 6 else dg 3 k 7) 3 < 3 ^ 3 := nm_lt 3 (fun i _ => by
    split
    · exact b _
    · split
      · exact b _
      · exact b _)
  have hd : ∀ i, i < 3 → dg 3 (nm 3 (fun i => if i = 0 then dg 3 k 3 else if i = 1 then dg 3 k 6 else dg 3 k 7) 3) i = (if i = 0 then dg 3 k 3 else if i = 1 then dg 3 k 6 else dg 3 k 7) := fun i hi => nm_dg (by decide) 3 (fun i _ => by
    split
    · exact b _
    · split
      · exact b _
      · exact b _) i hi
  refine ⟨_, hc, ?_⟩
  have e : ∀ q, q < 9 → TS 3 (nm 3 (fun i => if i = 0 then dg 3 k 3 else if i = 1 then dg 3 k 6 else dg 3 k 7) 3) q = dg 3 k q := fun q hq => by
    have i0 := h1 0 (by decide)
    have i1 := h1 1 (by decide)
    have i2 := h1 2 (by decide)
    have s1 := (h2 1 (by decide)).1 (by decide)
    have s2 := (h2 2 (by decide)).1 (by decide)
    have s5 := (h2 5 (by decide)).1 (by decide)
    have g0 := hd 0 (by decide)
    have g1 := hd 1 (by decide)
    have g2 := hd 2 (by decide)
    unfold pIdem at i0 i1 i2
    rw [show pt 3 2 0 0 0 = 0 by decide] at i0
    rw [show pt 3 2 1 1 1 = 4 by decide] at i1
    rw [show pt 3 2 2 2 2 = 8 by decide] at i2
    rw [show pt 3 2 (dg 3 1 1) (dg 3 1 0) (dg 3 1 2) = 3 by decide] at s1
    rw [show pt 3 2 (dg 3 2 1) (dg 3 2 0) (dg 3 2 2) = 6 by decide] at s2
    rw [show pt 3 2 (dg 3 5 1) (dg 3 5 0) (dg 3 5 2) = 7 by decide] at s5
    rw [if_pos rfl] at g0
    rw [if_neg (by decide), if_pos rfl] at g1
    rw [if_neg (by decide), if_neg (by decide)] at g2
    unfold TS
    rcases (by omega : q = 0 ∨ q = 1 ∨ q = 2 ∨ q = 3 ∨ q = 4 ∨ q = 5 ∨ q = 6 ∨ q = 7 ∨ q = 8) with rfl | rfl | rfl | rfl | rfl | rfl | rfl | rfl | rfl
    · rw [if_pos (by decide), i0]; decide
    · rw [if_neg (by decide), show dg 3 1 0 + dg 3 1 1 - 1 = 0 by decide, g0, s1]
    · rw [if_neg (by decide), show dg 3 2 0 + dg 3 2 1 - 1 = 1 by decide, g1, s2]
    · rw [if_neg (by decide), show dg 3 3 0 + dg 3 3 1 - 1 = 0 by decide, g0]
    · rw [if_pos (by decide), i1]; decide
    · rw [if_neg (by decide), show dg 3 5 0 + dg 3 5 1 - 1 = 2 by decide, g2, s5]
    · rw [if_neg (by decide), show dg 3 6 0 + dg 3 6 1 - 1 = 1 by decide, g1]
    · rw [if_neg (by decide), show dg 3 7 0 + dg 3 7 1 - 1 = 2 by decide, g2]
    · rw [if_pos (by decide), i2]; decide
  rw [nm_cong (fun q hq => e q hq)]
  exact (dg_nm (by decide) 9 k hk).symm
theorem TS_id {d c : Nat} (hd : d = 2 ∨ d = 3) : (∀ q, q < d → pIdem d 2 (TS d c) q) ∧ ∀ q, q < d ^ 2 → pSym d 2 (TS d c) q := by
  rcases hd with rfl | rfl
  · refine ⟨fun q hq => ?_, fun q hq => ⟨fun _ => ?_, fun h => absurd h (by decide)⟩⟩
    · rcases (by omega : q = 0 ∨ q = 1) with rfl | rfl <;> rfl
    · rcases (by omega : q = 0 ∨ q = 1 ∨ q = 2 ∨ q = 3) with rfl | rfl | rfl | rfl <;> rfl
  · refine ⟨fun q hq => ?_, fun q hq => ⟨fun _ => ?_, fun h => absurd h (by decide)⟩⟩
    · rcases (by omega : q = 0 ∨ q = 1 ∨ q = 2) with rfl | rfl | rfl <;> rfl
    · rcases (by omega : q = 0 ∨ q = 1 ∨ q = 2 ∨ q = 3 ∨ q = 4 ∨ q = 5 ∨ q = 6 ∨ q = 7 ∨ q = 8) with rfl | rfl | rfl | rfl | rfl | rfl | rfl | rfl | rfl <;> rfl
theorem pIdem_cong {d : Nat} {T T' : Nat → Nat} (hd : d = 2 ∨ d = 3) (h : ∀ p, p < d ^ 2 → T p = T' p) {q : Nat} (hq : q < d) : pIdem d 2 T q ↔ pIdem d 2 T' q := by
  unfold pIdem
  rw [h _ (pt_lt hd (by decide) (by decide) hq hq hq)]
theorem pSym_cong {d : Nat} {T T' : Nat → Nat} (hd : d = 2 ∨ d = 3) (h : ∀ p, p < d ^ 2 → T p = T' p) {q : Nat} (hq : q < d ^ 2) : pSym d 2 T q ↔ pSym d 2 T' q := by
  have hd0 : 0 < d := by omega
  unfold pSym
  rw [h q hq, h _ (pt_lt hd (by decide) (by decide) (dg_lt hd0 q 1) (dg_lt hd0 q 0) (dg_lt hd0 q 2)), h _ (pt_lt hd (by decide) (by decide) (dg_lt hd0 q 0) (dg_lt hd0 q 2) (dg_lt hd0 q 1))]
theorem semi_map {d R : Nat} {pl tu : Nat → Nat} (hd : d = 2 ∨ d = 3) {k : Nat} (hk : k < d ^ (d ^ 2)) : WS d R pl tu k ↔ ∃ c, c < nS d ∧ k = nm d (TS d c) (d ^ 2) ∧ VS d R pl tu c := by
  have hd0 : 0 < d := by omega
  have heq : ∀ c p, p < d ^ 2 → dg d (nm d (TS d c) (d ^ 2)) p = TS d c p := fun c p hp => nm_dg hd0 (d ^ 2) (fun _ _ => TS_lt hd0) p hp
  constructor
  · rintro ⟨m1, m2, m3, m4⟩
    have hex : ∃ c, c < nS d ∧ k = nm d (TS d c) (d ^ 2) := by
      rcases hd with rfl | rfl
      · refine pq_2 k hk (fun q hq => ⟨pt_lt (Or.inl rfl) (by decide) (by decide) hq hq hq, m1 q hq⟩) (fun q hq => (m2 q hq).1 (by decide))
      · exact pq_3 m1 m2 hk
    obtain ⟨c, c1, c2⟩ := hex
    refine ⟨c, c1, c2, fun q hq => ?_, ?_⟩
    · rw [c2] at m3
      exact (TS_ass hd (fun p _ => dg_lt hd0 _ _) (heq c)).mp (m3 q hq)
    · rw [c2] at m4
      exact (Kp_cong hd0 (fun p _ => dg_lt hd0 _ _) (heq c)).mp m4
  · rintro ⟨c, c1, rfl, c3, c4⟩
    obtain ⟨t1, t2⟩ := TS_id (d := d) (c := c) hd
    exact ⟨fun q hq => (pIdem_cong hd (heq c) hq).mpr (t1 q hq), fun q hq => (pSym_cong hd (heq c) hq).mpr (t2 q hq), fun q hq => (TS_ass hd (fun p _ => dg_lt hd0 _ _) (heq c)).mpr (c3 q hq), (Kp_cong hd0 (fun p _ => dg_lt hd0 _ _) (heq c)).mpr c4⟩
theorem semi_mono {d : Nat} (hd : d = 2 ∨ d = 3) : ∀ c c', c < c' → c' < nS d → nm d (TS d c) (d ^ 2) < nm d (TS d c') (d ^ 2) := fun c c' h1 h2 => by
  rcases hd with rfl | rfl
  · exact ph_2 c' h2 c h1
  · exact ph_3 c' h2 c h1
theorem semiX {d R : Nat} {pl tu : Nat → Nat} {g : xG} {a : xA} (hB : Bas d g a) (hR : RX d R pl tu g a) : ∃ x g' a', f_X3_firstSemilattice g a = some (x, g', a') ∧ Sm [2, 3, 21] [8, 9, 53] g a g' a' ∧ FirstR (WS d R pl tu) (d ^ (d ^ 2)) lN x := by
  have hd := hB.1
  have hd0 : 0 < d := by omega
  have e0 : f_X3_firstSemilattice g a = f_X3_firstSemilattice_20 fu g a (nI (nS d)) (nI 0) := by
    unfold f_X3_firstSemilattice nS
    rw [hB.2.1]
    rcases hd with rfl | rfl
    · rw [if_pos (show nI 2 = 2 from rfl), if_pos rfl]
      rfl
    · rw [if_neg (show ¬ nI 3 = 2 by decide), if_neg (by decide)]
      rfl
  have hN : nS d ≤ 27 := by unfold nS; split <;> decide
  obtain ⟨x, g', a', e1, e2, e3⟩ := fs20 hN (nS d) 0 fu g a (by omega) (fu_gt (by omega)) hB hR (fun c h => by omega)
  exact ⟨x, g', a', by rw [e0]; exact e1, e2, FR_map e3 (ph := fun c => nm d (TS d c) (d ^ 2)) (fun _ _ => rfl) (fun c _ => nm_lt _ (fun _ _ => TS_lt hd0)) (semi_mono hd) (fun k hk => semi_map hd hk)⟩
theorem semiM {d R : Nat} {pl tu : Nat → Nat} {g : xG} {a : xA} (hd : d = 2 ∨ d = 3) (h0 : g 0 = nI d) (hR : RM d R pl tu g a) : ∃ x a', f_X12_firstOfTwo g a = some (x, a') ∧ SmM g a g a' ∧ FirstR (WS d R pl tu) (d ^ (d ^ 2)) lN x := by
  have e0 : d ^ (d ^ 2) ≤ 19683 ∧ f_X12_firstOfTwo g a = f_X12_firstOfTwo_19 g fu a (nI (d ^ (d ^ 2))) (nI 0) := by
    unfold f_X12_firstOfTwo
    rw [h0]
    rcases hd with rfl | rfl
    · rw [if_pos (show nI 2 = 2 from rfl)]
      exact ⟨by decide, rfl⟩
    · rw [if_neg (show ¬ nI 3 = 2 by decide)]
      exact ⟨by decide, rfl⟩
  obtain ⟨x, a', e1, e2⟩ := ft19 hd h0 e0.1 (d ^ (d ^ 2)) 0 fu a (by omega) (fu_gt (by have := e0.1; omega)) hR (fun c h => by omega)
  exact ⟨x, a', by rw [e0.2]; exact e1, e2⟩
theorem ob1_first : ob_first Cpl := by
  intro g a gm am v1 h
  have hC := h
  obtain ⟨d, R, K, T, V, C, pl, tu, ar, ch, cr, an, cv, hB, h0, hR, hK, hT, hI⟩ := h
  have hd := hB.1
  have hX := RX_of hR
  have hM : RM d R pl tu (upd gm 8 0) am := RM_of hR
  have h0' : upd gm 8 0 0 = nI d := (upd_n _ _ (by decide)).trans h0
  have fin : ∀ {x : Int64} {g' : xG} {a' : xA} {am' : xA} {P Q : List Nat}, f_X11_first g a v1 = some (.inr (x, g', a')) → f_X12_first gm am v1 = some (x, upd gm 8 0, am') → Sm PX QX g a g' a' → SmM (upd gm 8 0) am (upd gm 8 0) am' → ∃ (z : Int64 × xG × xA) (zm : Int64 × xG × xA), f_X11_first g a v1 = some (.inr z) ∧ f_X12_first gm am v1 = some zm ∧ t_X12_thrown zm.2.1 zm.2.2 = 0 ∧ z.1 = zm.1 ∧ Cpl z.2.1 z.2.2 zm.2.1 zm.2.2 := fun {x g' a' am' P Q} q1 q2 q3 q4 => ⟨(x, g', a'), (x, upd gm 8 0, am'), q1, q2, thr_8, rfl, Cpl_fr hC q3 (SmM_tr SmM_8 q4)⟩
  by_cases q : v1 < nI 0 ∨ nI 3 < v1
  · have hne : ∀ j, j ≤ 3 → ¬ v1 = nI j := fun j hj e => by
      rw [e, nI_ltI (by omega) (by decide), nI_ltI (by decide) (by omega)] at q
      omega
    refine Or.inr ⟨(1, g, a), (0, upd gm 8 1, am), ?_, rfl, ?_, thr_8, Cpl_8 hC⟩
    · unfold f_X11_first
      rw [if_neg (show ¬ v1 = 0 from hne 0 (by decide)), if_neg (show ¬ v1 = 1 from hne 1 (by decide)), if_neg (show ¬ v1 = 2 from hne 2 (by decide)), if_neg (show ¬ v1 = 3 from hne 3 (by decide))]
    · unfold f_X12_first f_X12_first_15
      rw [if_pos (show t_X12_in gm am v1 0 3 = 0 from in_0 q), if_neg (by rw [upd_s]; decide)]
  refine Or.inl ?_
  rcases tri v1 (lo := 0) (hi := 3) (by decide) (by decide) with q' | q' | ⟨j, q1, q2, rfl⟩
  · exact absurd (Or.inl q') q
  · exact absurd (Or.inr q') q
  have hin : ¬ t_X12_in gm am (nI j) 0 3 = 0 := by rw [show t_X12_in gm am (nI j) 0 3 = 1 from in_1 (lo := 0) (hi := 3) (by omega) q2 (by decide)]; decide
  rcases (by omega : j = 0 ∨ j = 1 ∨ j = 2 ∨ j = 3) with rfl | rfl | rfl | rfl
  · obtain ⟨x, g', a', x1, x2, x3⟩ := constX hB hX
    obtain ⟨y, am', m1, m2, m3⟩ := constM hd h0' hM
    have e := FR_un x3 m3
    subst e
    refine fin (P := []) (Q := []) (x := x) (g' := g') (a' := a') (am' := am') ?_ ?_ (Sm_mo x2 (by decide) (by decide)) m2
    · unfold f_X11_first
      rw [if_pos (show nI 0 = 0 from rfl), x1, Option.bind_some]
    · unfold f_X12_first f_X12_first_15
      rw [if_neg hin, if_pos (le00 (by decide)), if_pos (show nI 0 = 0 from rfl), m1, Option.bind_some]
  · obtain ⟨x, g', a', x1, x2, x3⟩ := semiX hB hX
    obtain ⟨y, am', m1, m2, m3⟩ := semiM hd h0' hM
    have e := FR_un x3 m3
    subst e
    refine fin (P := []) (Q := []) (x := x) (g' := g') (a' := a') (am' := am') ?_ ?_ (Sm_mo x2 (by decide) (by decide)) m2
    · unfold f_X11_first
      rw [if_neg (show ¬ nI 1 = 0 by decide), if_pos (show nI 1 = 1 from rfl), x1, Option.bind_some]
    · unfold f_X12_first f_X12_first_15
      rw [if_neg hin, if_pos (le00 (by decide)), if_neg (show ¬ nI 1 = 0 by decide), if_neg (show ¬ (3 : Int32) ≤ nI 1 by decide), if_pos (show nI 1 = 1 from rfl), m1, Option.bind_some]
  · obtain ⟨x, g', a', x1, x2, x3⟩ := voteX hB hX
    obtain ⟨y, am', m1, m2, m3⟩ := voteM hd h0' hM
    have e := FR_un x3 m3
    subst e
    refine fin (P := []) (Q := []) (x := x) (g' := g') (a' := a') (am' := am') ?_ ?_ (Sm_mo x2 (by decide) (by decide)) m2
    · unfold f_X11_first
      rw [if_neg (show ¬ nI 2 = 0 by decide), if_neg (show ¬ nI 2 = 1 by decide), if_pos (show nI 2 = 2 from rfl), x1, Option.bind_some]
    · unfold f_X12_first f_X12_first_15
      rw [if_neg hin, if_pos (le00 (by decide)), if_neg (show ¬ nI 2 = 0 by decide), if_neg (show ¬ (3 : Int32) ≤ nI 2 by decide), if_neg (show ¬ nI 2 = 1 by decide), m1, Option.bind_some]
  · obtain ⟨x, g', a', x1, x2, x3⟩ := sumX hB hX
    obtain ⟨y, am', m1, m2, m3⟩ := sumM hd h0' hM
    have e := FR_un x3 m3
    subst e
    refine fin (P := []) (Q := []) (x := x) (g' := g') (a' := a') (am' := am') ?_ ?_ (Sm_mo x2 (by decide) (by decide)) m2
    · unfold f_X11_first
      rw [if_neg (show ¬ nI 3 = 0 by decide), if_neg (show ¬ nI 3 = 1 by decide), if_neg (show ¬ nI 3 = 2 by decide), if_pos (show nI 3 = 3 from rfl), x1, Option.bind_some]
    · unfold f_X12_first f_X12_first_15
      rw [if_neg hin, if_pos (le00 (by decide)), if_neg (show ¬ nI 3 = 0 by decide), if_pos (show (3 : Int32) ≤ nI 3 by decide)]
      exact m1
