/-! The law's calls that change. -/
def J (d R K V : Nat) (g : xG) (a : xA) : Prop := ∃ (C : Nat) (pl tu ar cr : Nat → Nat) (an cv : Nat → Nat → Nat), St d R K V C pl tu ar cr an cv g a
theorem J_of {d R K V : Nat} {g : xG} {a : xA} {gm : xG} {am : xA} (h : Cpl g a gm am) (h0 : g 0 = nI d) (h1 : g 1 = nI R) (h4 : g 4 = nI K) (h14 : g 14 = nI V) (hd : d < 2 ^ 31) (hR : R < 2 ^ 31) (hK : K < 2 ^ 31) (hV : V < 2 ^ 31) : J d R K V g a := by
  obtain ⟨d', R', K', V', C, pl, tu, ar, cr, an, cv, hS⟩ := St_of h
  obtain ⟨hB, hd', hR8, e1, hK6, e4, hV1, hV6, -, e14, -⟩ := St_b hS
  have q0 : d' = d := nI_inj (by omega) hd (hB.2.1.symm.trans h0)
  have q1 : R' = R := nI_inj (by omega) hR (e1.symm.trans h1)
  have q4 : K' = K := nI_inj (by omega) hK (e4.symm.trans h4)
  have q14 : V' = V := nI_inj (by omega) hV (e14.symm.trans h14)
  subst q0 q1 q4 q14
  exact ⟨C, pl, tu, ar, cr, an, cv, hS⟩
theorem J_b {d R K V : Nat} {g : xG} {a : xA} (h : J d R K V g a) : (d = 2 ∨ d = 3) ∧ R ≤ 8 ∧ K ≤ 6 ∧ 1 ≤ V ∧ V ≤ 6 ∧ g 0 = nI d ∧ g 1 = nI R ∧ g 4 = nI K ∧ g 14 = nI V ∧ Bas d g a ∧ ∃ (gm : xG) (am : xA), Cpl g a gm am := by
  obtain ⟨C, pl, tu, ar, cr, an, cv, hS⟩ := h
  obtain ⟨hB, hd', hR8, e1, hK6, e4, hV1, hV6, -, e14, -⟩ := St_b hS
  exact ⟨hd', hR8, hK6, hV1, hV6, hB.2.1, e1, e4, e14, hB, Cpl_of hS⟩
theorem J_fr {d R K V : Nat} {g g' : xG} {a a' : xA} (h : J d R K V g a) (s : Sm PX QX g a g' a') : J d R K V g' a' := by
  obtain ⟨C, pl, tu, ar, cr, an, cv, hS⟩ := h
  exact ⟨C, pl, tu, ar, cr, an, cv, St_fr hS s⟩
section SE
variable {d R K V : Nat} {g : xG} {a : xA}
theorem sum_ne {α β : Type} {x : β} {y : α} (h : (some (.inl x) : Option (β ⊕ α)) = some (.inr y)) : False := by cases h
theorem tup_bo {v1 v2 v3 : Int32} {z : Int32 × xA} (h : f_X11_tuple g a v1 v2 v3 = some (.inr z)) : boB z.1 = true := by
  have h90 : ∀ x2 x4 s0 s1 : Int32, f_X11_tuple_90 g a x2 x4 s0 s1 = some (.inr z) → boB z.1 = true := fun x2 x4 s0 s1 q => by
    unfold f_X11_tuple_90 at q
    obtain ⟨k, q⟩ := ck_some q
    cases q
    exact k
  unfold f_X11_tuple at h
  by_cases c1 : t_X10_isThere g a v1 = 0
  · rw [if_pos c1] at h
    exact (sum_ne h).elim
  · rw [if_neg c1] at h
    by_cases c2 : v2 < 0
    · rw [if_pos c2] at h
      exact (sum_ne h).elim
    · rw [if_neg c2] at h
      by_cases c3 : v2 < (t_X4_power g a (t_X10_placesOf g a v1))
      · rw [if_pos c3] at h
        by_cases c4 : v3 = 0
        · rw [if_pos c4] at h
          exact h90 _ _ _ _ h
        · rw [if_neg c4] at h
          exact h90 _ _ _ _ h
      · rw [if_neg c3] at h
        exact (sum_ne h).elim
theorem s_puts (h : J d R K V g a) (v1 v2 v3 : Int32) : ∃ (x : Int32) (a' : xA), f_L_puts g a v1 v2 v3 = some (x, g, a') ∧ J d R K V g a' := by
  obtain ⟨hd, hR, hK, hV1, hV, e0, e1, e4, e14, hB, gm, am, hC⟩ := J_b h
  unfold f_L_puts
  rcases ob1_tuple g a gm am v1 v2 v3 hC with ⟨z, zm, q, -, -, -, hI⟩ | ⟨z, zm, q, q3, -, -, hI⟩
  · refine ⟨z.1, z.2, ?_, J_of hI e0 e1 e4 e14 (by omega) (by omega) (by omega) (by omega)⟩
    rw [q, Option.bind_some]
    dsimp only [Sum.elim]
    rw [ck_t (tup_bo q)]
  · refine ⟨0, z.2, ?_, J_of hI e0 e1 e4 e14 (by omega) (by omega) (by omega) (by omega)⟩
    rw [q, Option.bind_some]
    dsimp only [Sum.elim]
    rw [if_pos q3]
theorem s_tells (h : J d R K V g a) (v1 v2 v3 : Int32) : ∃ (x : Int32) (a' : xA), f_L_tells g a v1 v2 v3 = some (x, g, a') ∧ J d R K V g a' := by
  obtain ⟨hd, hR, hK, hV1, hV, e0, e1, e4, e14, hB, gm, am, hC⟩ := J_b h
  unfold f_L_tells
  rcases ob1_answers g a gm am v1 v2 v3 hC with ⟨z, zm, q, -, -, -, hI⟩ | ⟨z, zm, q, q3, -, -, hI⟩ | ⟨z, zm, q, q3, -, -, hI⟩
  · refine ⟨z.1, z.2, ?_, J_of hI e0 e1 e4 e14 (by omega) (by omega) (by omega) (by omega)⟩
    rw [q, Option.bind_some]
    rfl
  · refine ⟨-5, z.2, ?_, J_of hI e0 e1 e4 e14 (by omega) (by omega) (by omega) (by omega)⟩
    rw [q, Option.bind_some]
    dsimp only [Sum.elim]
    rw [if_pos q3]
  · refine ⟨-7, z.2, ?_, J_of hI e0 e1 e4 e14 (by omega) (by omega) (by omega) (by omega)⟩
    rw [q, Option.bind_some]
    dsimp only [Sum.elim]
    rw [if_neg (by rw [q3]; decide), if_pos q3]
/-- a relation is made, or not -/
theorem s_relation (h : J d R K V g a) {p : Nat} (hp : 1 ≤ p) (hp3 : p ≤ 3) : (p + d ≤ 5 ∧ R < 8 ∧ ∃ g' a', f_X11_relation g a (nI p) = some (.inr (nI R, g', a')) ∧ J d (R + 1) K V g' a') ∨ (∃ c, (c = 1 ∨ c = 2) ∧ f_X11_relation g a (nI p) = some (.inl (c, g, a))) := by
  obtain ⟨hd, hR, hK, hV1, hV, e0, e1, e4, e14, hB, gm, am, hC⟩ := J_b h
  have hc1 : ¬ nI p < 1 := nI_nlt (a := p) (b := 1) hp (by omega)
  by_cases c1 : p + d ≤ 5
  · have hc2 : nI p ≤ t_X4_widest g a := by rw [wid hB]; exact nI_le (by omega) (by omega)
    by_cases c2 : R < 8
    · have ex : f_X11_relation g a (nI p) = some (.inr (nI R, upd g 1 (nI (R + 1)), upA (upA a 5 (upd (a 5) R (nI p))) 6 (upd (a 6) R 0))) := by
        unfold f_X11_relation
        rw [if_neg hc1, if_pos hc2, e1, if_pos (show nI R < 8 from nI_lt (a := R) (b := 8) c2 (by decide))]
        unfold f_X10_add
        rw [e1, put_in (by omega) (by decide), upA_n _ _ (by decide), put_in (by omega) (by decide), Option.bind_some, show nI R + 1 = nI (R + 1) from nI_1 R]
      refine Or.inl ⟨c1, c2, _, _, ex, ?_⟩
      rcases ob1_relation g a gm am (nI p) hC with ⟨z, zm, q, -, -, -, hI⟩ | ⟨z, zm, q, -⟩ | ⟨z, zm, q, -⟩
      · rw [ex] at q
        cases q
        exact J_of hI ((upd_n _ _ (by decide)).trans e0) (upd_s ..) ((upd_n _ _ (by decide)).trans e4) ((upd_n _ _ (by decide)).trans e14) (by omega) (by omega) (by omega) (by omega)
      · rw [ex] at q
        exact (sum_ne q.symm).elim
      · rw [ex] at q
        exact (sum_ne q.symm).elim
    · refine Or.inr ⟨2, Or.inr rfl, ?_⟩
      unfold f_X11_relation
      rw [if_neg hc1, if_pos hc2, e1, if_neg (show ¬ nI R < 8 from nI_nlt (a := R) (b := 8) (by omega) (by omega))]
  · refine Or.inr ⟨1, Or.inl rfl, ?_⟩
    unfold f_X11_relation
    rw [if_neg hc1, if_neg (by rw [wid hB]; exact nI_ge (by omega) (by omega))]
    rfl
theorem s_relates (h : J d R K V g a) {p : Nat} (hp : 1 ≤ p) (hp3 : p ≤ 3) : ∃ (x : Int32) (g' : xG) (a' : xA), f_L_relates g a (nI p) = some (x, g', a') ∧ ((x < 0 ∧ J d R K V g' a') ∨ (¬ x < 0 ∧ J d (R + 1) K V g' a')) := by
  obtain ⟨hd, hR, -⟩ := J_b h
  unfold f_L_relates
  rcases s_relation h hp hp3 with ⟨_, _, g', a', q, hJ⟩ | ⟨c, hc, q⟩
  · refine ⟨nI R, g', a', ?_, Or.inr ⟨nI_pos (by omega), hJ⟩⟩
    rw [q, Option.bind_some]
    rfl
  · rcases hc with rfl | rfl
    · refine ⟨-7, g, a, ?_, Or.inl ⟨by decide, h⟩⟩
      rw [q, Option.bind_some]
      rfl
    · refine ⟨-9, g, a, ?_, Or.inl ⟨by decide, h⟩⟩
      rw [q, Option.bind_some]
      rfl
theorem s_oper (h : J d R K V g a) {p : Nat} (hp : 1 ≤ p) (hp3 : p ≤ 3) : (∃ g' a', f_X11_operation g a (nI p) = some (.inr (nI K, g', a')) ∧ J d R (K + 1) V g' a') ∨ f_X11_operation g a (nI p) = some (.inl (2, g, a)) := by
  obtain ⟨hd, hR, hK, hV1, hV, e0, e1, e4, e14, hB, gm, am, hC⟩ := J_b h
  have hc1 : ¬ nI p < 1 := nI_nlt (a := p) (b := 1) hp (by omega)
  have hc2 : nI p ≤ 3 := nI_le (a := p) (b := 3) hp3 (by omega)
  by_cases hKl : K < 6
  · obtain ⟨f, k1, -⟩ := beginO (k := K) (w := p) (g := upd g 4 (nI (K + 1))) (a := a) (d := d) (by omega) hp3 (Bas_fr hB (upd_n _ _ (by decide)) rfl rfl)
    have ex : f_X11_operation g a (nI p) = some (.inr (nI K, upd (upd g 4 (nI (K + 1))) (15 + K) (nI p), upA a (47 + K) f)) := by
      unfold f_X11_operation
      rw [if_neg hc1, if_pos hc2, e4, if_pos (show nI K < 6 from nI_lt (a := K) (b := 6) hKl (by decide))]
      unfold f_X6_add
      rw [e4, show nI K + 1 = nI (K + 1) from nI_1 K, upd_s, getF_1 (by omega) (by omega), om_s, k1, Option.bind_some, Option.bind_some]
    refine Or.inl ⟨_, _, ex, ?_⟩
    have hg : ∀ i, i ≠ 4 → i ≠ 15 + K → upd (upd g 4 (nI (K + 1))) (15 + K) (nI p) i = g i := fun i h1 h2 => up2 h1 h2
    rcases ob1_operation g a gm am (nI p) hC with ⟨z, zm, q, -, -, -, hI⟩ | ⟨z, zm, q, -⟩ | ⟨z, zm, q, -⟩
    · rw [ex] at q
      cases q
      exact J_of hI ((hg 0 (by decide) (by omega)).trans e0) ((hg 1 (by decide) (by omega)).trans e1) ((upd_n _ _ (by omega)).trans (upd_s ..)) ((hg 14 (by decide) (by omega)).trans e14) (by omega) (by omega) (by omega) (by omega)
    · rw [ex] at q
      exact (sum_ne q.symm).elim
    · rw [ex] at q
      exact (sum_ne q.symm).elim
  · refine Or.inr ?_
    unfold f_X11_operation
    rw [if_neg hc1, if_pos hc2, e4, if_neg (show ¬ nI K < 6 from nI_nlt (a := K) (b := 6) (by omega) (by omega))]
theorem s_make (h : J d R K V g a) {j : Nat} (hj : j ≤ 4) : (∃ g' a', f_X11_make g a (nI j) = some (.inr (nI K, g', a')) ∧ J d R (K + 1) V g' a') ∨ f_X11_make g a (nI j) = some (.inl (2, g, a)) := by
  obtain ⟨hd, hR, hK, hV1, hV, e0, e1, e4, e14, hB, gm, am, hC⟩ := J_b h
  have hc1 : ¬ nI j < 0 := nI_pos (by omega)
  have hc2 : nI j ≤ 4 := nI_le (a := j) (b := 4) hj (by omega)
  by_cases hKl : K < 6
  · obtain ⟨f, k1, -⟩ := becomeO (k := K) (what := j) (g := upd g 4 (nI (K + 1))) (a := a) (d := d) (by omega) (by omega) (Bas_fr hB (upd_n _ _ (by decide)) rfl rfl)
    have ex : f_X11_make g a (nI j) = some (.inr (nI K, upd (upd g 4 (nI (K + 1))) (15 + K) (nI (wmk j)), upA a (47 + K) f)) := by
      unfold f_X11_make
      rw [if_neg hc1, if_pos hc2, e4, if_pos (show nI K < 6 from nI_lt (a := K) (b := 6) hKl (by decide))]
      unfold f_X6_addMade
      rw [e4, show nI K + 1 = nI (K + 1) from nI_1 K, upd_s, getF_1 (by omega) (by omega), om_s, k1, Option.bind_some, Option.bind_some]
    refine Or.inl ⟨_, _, ex, ?_⟩
    have hg : ∀ i, i ≠ 4 → i ≠ 15 + K → upd (upd g 4 (nI (K + 1))) (15 + K) (nI (wmk j)) i = g i := fun i h1 h2 => up2 h1 h2
    rcases ob1_make g a gm am (nI j) hC with ⟨z, zm, q, -, -, -, hI⟩ | ⟨z, zm, q, -⟩ | ⟨z, zm, q, -⟩
    · rw [ex] at q
      cases q
      exact J_of hI ((hg 0 (by decide) (by omega)).trans e0) ((hg 1 (by decide) (by omega)).trans e1) ((upd_n _ _ (by omega)).trans (upd_s ..)) ((hg 14 (by decide) (by omega)).trans e14) (by omega) (by omega) (by omega) (by omega)
    · rw [ex] at q
      exact (sum_ne q.symm).elim
    · rw [ex] at q
      exact (sum_ne q.symm).elim
  · refine Or.inr ?_
    unfold f_X11_make
    rw [if_neg hc1, if_pos hc2, e4, if_neg (show ¬ nI K < 6 from nI_nlt (a := K) (b := 6) (by omega) (by omega))]
theorem s_takes (h : J d R K V g a) (v : Int32) : ∃ (x : Int32) (g' : xG) (a' : xA), f_L_takes g a v = some (x, g', a') ∧ ((x < 0 ∧ J d R K V g' a') ∨ (¬ x < 0 ∧ J d R (K + 1) V g' a')) := by
  obtain ⟨hd, hR, hK, -⟩ := J_b h
  obtain ⟨b, hb, l1⟩ := low_ok (g := g) (a := a) v (n := 2) (by decide) (by decide)
  unfold f_L_takes
  rw [show f_L_low g a v 2 = _ from l1, Option.bind_some]
  by_cases q : nI b = 0
  · rw [if_pos q]
    obtain ⟨j, hj, l2⟩ := low_ok (g := g) (a := a) ((v : Int32) >>> ((1 : Int32) &&& 31)) (n := 5) (by decide) (by decide)
    rw [show f_L_low g a ((v : Int32) >>> ((1 : Int32) &&& 31)) 5 = _ from l2, Option.bind_some]
    rcases s_make h (j := j) (by omega) with ⟨g', a', e, hJ⟩ | e
    · refine ⟨nI K, g', a', ?_, Or.inr ⟨nI_pos (by omega), hJ⟩⟩
      rw [e, Option.bind_some]
      rfl
    · refine ⟨-9, g, a, ?_, Or.inl ⟨by decide, h⟩⟩
      rw [e, Option.bind_some]
      rfl
  · rw [if_neg q]
    obtain ⟨j, hj, l2⟩ := low_ok (g := g) (a := a) ((v : Int32) >>> ((1 : Int32) &&& 31)) (n := 3) (by decide) (by decide)
    rw [show f_L_low g a ((v : Int32) >>> ((1 : Int32) &&& 31)) 3 = _ from l2, Option.bind_some, show (1 : Int32) + nI j = nI (1 + j) from nI_add 1 j]
    rcases s_oper h (p := 1 + j) (by omega) (by omega) with ⟨g', a', e, hJ⟩ | e
    · refine ⟨nI K, g', a', ?_, Or.inr ⟨nI_pos (by omega), hJ⟩⟩
      rw [e, Option.bind_some]
      rfl
    · refine ⟨-9, g, a, ?_, Or.inl ⟨by decide, h⟩⟩
      rw [e, Option.bind_some]
      rfl
theorem s_instance (h : J d R K V g a) {n : Nat} (hn : 1 ≤ n) (hn6 : n ≤ 6) : ∃ (c : Nat) (g' : xG), f_X11_instance g a (nI n) = some (.inr (nI c, g')) ∧ c < 100 ∧ J d R K n g' a ∧ ∃ a', f_X11_solve g' a = some (0, a') ∧ J d R K n g' a' := by
  obtain ⟨hd, hR, hK, hV1, hV, e0, e1, e4, e14, hB, gm, am, hC⟩ := J_b h
  obtain ⟨C, pl, tu, ar, cr, an, cv, hS⟩ := h
  obtain ⟨-, -, -, -, -, -, -, -, hC16, -, e13⟩ := St_b hS
  have ex : f_X11_instance g a (nI n) = some (.inr (nI C, t_X2_begin 1 g a (nI n))) := by
    unfold f_X11_instance
    rw [if_neg (show ¬ nI n < 1 from nI_nlt (b := 1) hn (by omega)), if_pos (show nI n ≤ 6 from nI_le (b := 6) hn6 (by decide)), e13]
  have hg : ∀ i, i ≠ 14 → i ≠ 13 → t_X2_begin 1 g a (nI n) i = g i := fun i h1 h2 => up2 h1 h2
  have hJ : J d R K n (t_X2_begin 1 g a (nI n)) a := by
    rcases ob1_instance g a gm am (nI n) hC with ⟨z, zm, q, -, -, -, hI⟩ | ⟨z, zm, q, -⟩
    · rw [ex] at q
      cases q
      exact J_of hI ((hg 0 (by decide) (by decide)).trans e0) ((hg 1 (by decide) (by decide)).trans e1) ((hg 4 (by decide) (by decide)).trans e4) rfl (by omega) (by omega) (by omega) (by omega)
    · rw [ex] at q
      exact (sum_ne q.symm).elim
  refine ⟨C, _, ex, by omega, hJ, ?_⟩
  obtain ⟨C', pl', tu', ar', cr', an', cv', hS'⟩ := id hJ
  obtain ⟨-, -, -, -, -, -, -, -, hC16', -, e13'⟩ := St_b hS'
  have hC0 : C' = 0 := nI_inj (b := 0) (by omega) (by decide) (e13'.symm.trans rfl)
  subst hC0
  obtain ⟨a', s, e⟩ := q_solve hS'
  have hsol : ∀ z, SolC d 0 (fun c => pl' (cr' c)) cv' (fun c => tu' (cr' c)) z := fun z c hc => by omega
  have hpos : 0 < nSol d n 0 pl' tu' cr' cv' := cb_pos (k := 0) (pwp hd n) (hsol _)
  refine ⟨a', ?_, J_fr hJ s⟩
  rcases e with ⟨e, _⟩ | ⟨_, c, c1, c2, c3, e⟩
  · omega
  · rcases Nat.eq_zero_or_pos c with q | q
    · rw [e, q]
      rfl
    · exact absurd (hsol _) (c3 0 q)
theorem s_constrains {C : Nat} {pl tu ar cr : Nat → Nat} {an cv : Nat → Nat → Nat} (hS : St d R K V C pl tu ar cr an cv g a) {r : Nat} (hr : r < R) {v0 v1 v2 : Nat} (h0 : v0 < V) (h1 : v1 < V) (h2 : v2 < V) : ∃ (x : Int32) (g' : xG) (a' : xA), f_L_constrains g a (nI r) (nI v0) (if nI (pl r) ≤ 1 then -1 else nI v1) (if nI (pl r) ≤ 2 then -1 else nI v2) = some (x, g', a') ∧ J d R K V g' a' ∧ (x = -9 ∨ ¬ x ≤ 0) := by
  have h : J d R K V g a := ⟨C, pl, tu, ar, cr, an, cv, hS⟩
  obtain ⟨hd, hR, hK, hV1, hV, e0, e1, e4, e14, hB, gm, am, hC⟩ := J_b h
  obtain ⟨-, -, -, -, -, -, -, -, hC16, -, e13⟩ := St_b hS
  obtain ⟨r1, r3, r5, r6, r7, h9, h5⟩ := St_r hS hr
  have hpl : 1 ≤ pl r ∧ pl r ≤ 3 := ⟨r5, by omega⟩
  obtain ⟨w3, hw3⟩ : ∃ w3, w3 = (if nI (pl r) ≤ 1 then -1 else nI v1) := ⟨_, rfl⟩
  obtain ⟨w4, hw4⟩ : ∃ w4, w4 = (if nI (pl r) ≤ 2 then -1 else nI v2) := ⟨_, rfl⟩
  have i3 : (w3 = -1 ∧ pl r ≤ 1) ∨ (w3 = nI v1 ∧ 2 ≤ pl r) := by
    by_cases q : pl r ≤ 1
    · exact Or.inl ⟨by rw [hw3, if_pos (show nI (pl r) ≤ 1 from nI_le (b := 1) q (by decide))], q⟩
    · exact Or.inr ⟨by rw [hw3, if_neg (show ¬ nI (pl r) ≤ 1 from nI_ge (a := 1) (by omega) (by omega))], by omega⟩
  have i4 : (w4 = -1 ∧ pl r ≤ 2) ∨ (w4 = nI v2 ∧ 3 ≤ pl r) := by
    by_cases q : pl r ≤ 2
    · exact Or.inl ⟨by rw [hw4, if_pos (show nI (pl r) ≤ 2 from nI_le (b := 2) q (by decide))], q⟩
    · exact Or.inr ⟨by rw [hw4, if_neg (show ¬ nI (pl r) ≤ 2 from nI_ge (a := 2) (by omega) (by omega))], by omega⟩
  rw [← hw3, ← hw4]
  have hvn : ∀ v, v < V → ¬ t_X11_isVariableOrNone g a (nI v) = 0 := fun v hv => by
    unfold t_X11_isVariableOrNone t_X2_isThere
    rw [if_neg (m1n (by omega)), if_neg (nI_pos (by omega)), show g (12 + 2 * 1) = nI V from e14, if_neg (nI_ge hv (by omega))]
    decide
  have hvm : ¬ t_X11_isVariableOrNone g a (-1) = 0 := by
    unfold t_X11_isVariableOrNone
    rw [if_pos rfl]
    decide
  have n3 : ¬ t_X11_isVariableOrNone g a w3 = 0 := by
    rcases i3 with ⟨e, _⟩ | ⟨e, _⟩
    · rw [e]; exact hvm
    · rw [e]; exact hvn _ h1
  have n4 : ¬ t_X11_isVariableOrNone g a w4 = 0 := by
    rcases i4 with ⟨e, _⟩ | ⟨e, _⟩
    · rw [e]; exact hvm
    · rw [e]; exact hvn _ h2
  have f3 : ¬ ((w3 = -1) ↔ 2 ≤ pl r) := fun q => by
    rcases i3 with ⟨e, k⟩ | ⟨e, k⟩
    · have := q.mp e
      omega
    · exact m1n (q := v1) (by omega) (e.symm.trans (q.mpr k))
  have f4 : ¬ ((w4 = -1) ↔ 3 ≤ pl r) := fun q => by
    rcases i4 with ⟨e, k⟩ | ⟨e, k⟩
    · have := q.mp e
      omega
    · exact m1n (q := v2) (by omega) (e.symm.trans (q.mpr k))
  have hfit : ¬ (nI v0 = -1 ∨ ((w3 = -1) ↔ 2 ≤ pl r) ∨ ((w4 = -1) ↔ 3 ≤ pl r)) := fun q => by
    rcases q with q | q | q
    · exact m1n (q := v0) (by omega) q
    · exact f3 q
    · exact f4 q
  have ex : f_X11_constrain g a (nI r) (nI v0) w3 w4 = if C = 16 then some (.inl (2, g, a)) else Option.bind (f_X2_add 1 g a (nI r) (nI v0) w3 w4) (fun u13 => some (.inr ((u13.1 13), u13.1, u13.2))) := by
    unfold f_X11_constrain
    rw [if_neg (St_th hS hr), if_neg (hvn _ h0), if_neg n3, if_neg n4, plOf (by omega) r1, if_neg (m1n (q := v0) (by omega)), conX2 hC16 e13 hpl (m1n (q := v0) (by omega)), if_neg hfit]
  unfold f_L_constrains
  by_cases hfull : C = 16
  · rw [if_pos hfull] at ex
    refine ⟨-9, g, a, ?_, h, Or.inl rfl⟩
    rw [ex, Option.bind_some]
    rfl
  rw [if_neg hfull] at ex
  obtain ⟨a2, f34, k1, -, -, -⟩ := addX (j := 1) (C := C) (r := r) (n0 := pl r) (x := fun p => if p = 0 then v0 else if p = 1 then v1 else v2) (g := g) (a := a) (v2 := nI v0) (v3 := w3) (v4 := w4) (by decide) (by omega) (by omega) hpl.2 e13 r1 (fun p hp => by
    unfold tri3
    rcases (by omega : p = 0 ∨ p = 1 ∨ p = 2) with rfl | rfl | rfl
    · exact ⟨rfl, by show v0 < 100; omega⟩
    · rcases i3 with ⟨_, k⟩ | ⟨e, _⟩
      · omega
      · exact ⟨e, by show v1 < 100; omega⟩
    · rcases i4 with ⟨_, k⟩ | ⟨e, _⟩
      · omega
      · exact ⟨e, by show v2 < 100; omega⟩)
  have ex2 : f_X11_constrain g a (nI r) (nI v0) w3 w4 = some (.inr (nI (C + 1), upd g 13 (nI (C + 1)), a2)) := by
    rw [ex, k1, Option.bind_some]
    rfl
  refine ⟨nI (C + 1), upd g 13 (nI (C + 1)), a2, ?_, ?_, Or.inr (nI_nle (by omega) (by omega))⟩
  · rw [ex2, Option.bind_some]
    rfl
  · rcases ob1_constrain g a gm am (nI r) (nI v0) w3 w4 hC with ⟨z, zm, q, -, -, -, hI⟩ | ⟨z, zm, q, -⟩ | ⟨z, zm, q, -⟩ | ⟨z, zm, q, -⟩
    · rw [ex2] at q
      cases q
      exact J_of hI ((upd_n _ _ (by decide)).trans e0) ((upd_n _ _ (by decide)).trans e1) ((upd_n _ _ (by decide)).trans e4) ((upd_n _ _ (by decide)).trans e14) (by omega) (by omega) (by omega) (by omega)
    · rw [ex2] at q
      exact (sum_ne q.symm).elim
    · rw [ex2] at q
      exact (sum_ne q.symm).elim
    · rw [ex2] at q
      exact (sum_ne q.symm).elim
theorem s_values {g : xG} {a : xA} {gm : xG} {am : xA} (hC : Cpl g a gm am) {d : Nat} (hd : d = 2 ∨ d = 3) : ∃ (g' : xG) (a' : xA), f_X11_values g a (nI d) = some (.inr (g 0, g', a')) ∧ J d 0 0 1 g' a' := by
  obtain ⟨f2, f3, f5, f6, b1, -⟩ := beginAnew hd g a
  have ex : f_X11_values g a (nI d) = some (.inr (g 0, upd (upd (upd (upd (upd g 0 (nI d)) 1 0) 4 0) 14 1) 13 0, upA (upA (upA (upA a 2 f2) 3 f3) 5 f5) 6 f6)) := by
    unfold f_X11_values
    rcases hd with rfl | rfl
    · rw [if_pos (show nI 2 = 2 from rfl)]
      unfold f_X11_values_20
      rw [b1, Option.bind_some]
    · rw [if_neg (show ¬ nI 3 = 2 by decide), if_pos (show nI 3 = 3 from rfl)]
      unfold f_X11_values_20
      rw [b1, Option.bind_some]
  refine ⟨_, _, ex, ?_⟩
  rcases ob1_values g a gm am (nI d) hC with ⟨z, zm, q, -, -, -, hI⟩ | ⟨z, zm, q, -⟩
  · rw [ex] at q
    cases q
    exact J_of hI rfl rfl rfl rfl (by omega) (by decide) (by decide) (by decide)
  · rw [ex] at q
    exact (sum_ne q.symm).elim
end SE
