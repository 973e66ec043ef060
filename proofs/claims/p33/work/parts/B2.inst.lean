/-! Each solution is among the values and pairs that are left. -/
section IN
variable {d R K V C : Nat} {pl tu ar cr : Nat → Nat} {an cv : Nat → Nat → Nat} {g : xG} {a : xA}
/-- how many solutions there are -/
noncomputable def nSol (d V C : Nat) (pl tu cr : Nat → Nat) (cv : Nat → Nat → Nat) : Nat := cb (fun c => SolC d C (fun c => pl (cr c)) cv (fun c => tu (cr c)) (dg d c)) (d ^ V)
theorem nSol_le (hd : d = 2 ∨ d = 3) (hV : V ≤ 6) : nSol d V C pl tu cr cv ≤ 729 := Nat.le_trans (cb_le _) (pw6 hd hV)
theorem q_solutions (h : St d R K V C pl tu ar cr an cv g a) : ∃ a', f_X11_solutions g a = some (nI (nSol d V C pl tu cr cv), a') ∧ Sm PX QX g a g a' := by
  obtain ⟨hB, hd, -, -, -, -, hV1, hV, -⟩ := St_b h
  have hX := St_i h
  have h7 := pw6 hd hV
  have hp := pwp hd V
  obtain ⟨f, f', e1, e2, _⟩ := tryAll hB hX hp h7
  have hmin : min (d ^ V) (cb (fun c => SolC d C (fun c => pl (cr c)) cv (fun c => tu (cr c)) (dg d c)) (d ^ V)) = nSol d V C pl tu cr cv := Nat.min_eq_right (cb_le _)
  refine ⟨upA (upA a 36 f) 37 f', ?_, Sm_A (Sm_A Sm_rfl (by decide)) (by decide)⟩
  unfold f_X11_solutions f_X2_countSolutions
  rw [e1, Option.bind_some, show g (12 + 2 * 1) = nI V from hX.2.2.2.1, powA hB (by omega) (upA_n _ _ (by decide)), e2, Option.bind_some, Option.bind_some, hmin]
theorem q_anew (h : St d R K V C pl tu ar cr an cv g a) : ∃ a', f_X11_solutionsAnew g a = some (nI (nSol d V C pl tu cr cv), a') ∧ Sm PX QX g a g a' := by
  obtain ⟨hB, hd, -, -, -, -, hV1, hV, -, h14, -⟩ := St_b h
  have hX := St_i h
  have h7 := pw6 hd hV
  have hp := pwp hd V
  obtain ⟨f, e1, e2⟩ := ta2 (g := g) 6 0 fu a (by omega) (fu_gt (by omega)) (fun v hv => by omega)
  obtain ⟨f2, t1⟩ := ta38 (V := V) (g := g) hd hB.2.1 (d ^ V) 0 fu (upA a 37 f) (by omega) (fu_gt (by omega)) (Ins_30 (f := f) hX) (fun v hv => by
    rw [upA_s, e2 v (by omega)]
    congr 1
    unfold dg
    rw [Nat.zero_div, Nat.zero_mod])
  rw [upA_2] at t1
  refine ⟨upA a 37 f2, ?_, Sm_A Sm_rfl (by decide)⟩
  unfold f_X11_solutionsAnew f_X2_countByTryingAll
  rw [z0, e1, h14, powA hB (by omega) (upA_n _ _ (by decide))]
  rw [show f_X2_countByTryingAll_38 1 g fu (upA a 37 f) 0 (nI (d ^ V)) = _ from t1, Option.bind_some]
  rfl
theorem q_solve (h : St d R K V C pl tu ar cr an cv g a) : ∃ a', Sm PX QX g a g a' ∧ ((nSol d V C pl tu cr cv = 0 ∧ f_X11_solve g a = some (-1, a')) ∨ (0 < nSol d V C pl tu cr cv ∧ ∃ c, c < d ^ V ∧ SolC d C (fun c => pl (cr c)) cv (fun c => tu (cr c)) (dg d c) ∧ (∀ c', c' < c → ¬ SolC d C (fun c => pl (cr c)) cv (fun c => tu (cr c)) (dg d c')) ∧ f_X11_solve g a = some (nI c, a'))) := by
  obtain ⟨hB, hd, -, -, -, -, hV1, hV, -⟩ := St_b h
  have hd0 : 0 < d := by omega
  have hX := St_i h
  have h7 := pw6 hd hV
  have hp := pwp hd V
  obtain ⟨f, f', e1, e2, e3⟩ := tryAll (most := 1) hB hX (Nat.le_refl _) (by decide)
  have ex : f_X11_solve g a = Option.bind (f_X2_lowestSolution 1 g a) (fun u1 => some (u1.1, u1.2)) := rfl
  refine ⟨upA (upA a 36 f) 37 f', Sm_A (Sm_A Sm_rfl (by decide)) (by decide), ?_⟩
  by_cases hz : nSol d V C pl tu cr cv = 0
  · refine Or.inl ⟨hz, ?_⟩
    have hz' : cb (fun c => SolC d C (fun c => pl (cr c)) cv (fun c => tu (cr c)) (dg d c)) (d ^ V) = 0 := hz
    rw [hz'] at e2
    rw [ex]
    unfold f_X2_lowestSolution f_X2_hasSolution
    rw [e1, Option.bind_some, show g (12 + 2 * 1) = nI V from hX.2.2.2.1, z1] at *
    rw [e2, Option.bind_some]
    rfl
  · have hpos : 0 < nSol d V C pl tu cr cv := Nat.pos_of_ne_zero hz
    obtain ⟨c, c1, c2, c3⟩ := cb_first hpos
    refine Or.inr ⟨hpos, c, c1, c2, c3, ?_⟩
    have hz2 := cb_pos (P := fun c => SolC d C (fun c => pl (cr c)) cv (fun c => tu (cr c)) (dg d c)) c1 c2
    rw [Nat.min_eq_left (by omega)] at e2
    have hf := e3 rfl c c1 c2 c3
    rw [ex]
    have l := lo22 (g := g) (a := upA (upA a 36 f) 37 f') (z := dg d c) hB.2.1 hV (fun i hi => by rw [upA_s]; exact hf i hi) V 0 fu (by omega) (fu_gt (by omega))
    rw [dg_nm hd0 V c c1] at l
    have e4 : f_X2_hasSolution 1 g (upA a 36 f) = some (1, upA (upA a 36 f) 37 f') := by
      unfold f_X2_hasSolution
      rw [show g (12 + 2 * 1) = nI V from hX.2.2.2.1, show (1 : Int32) = nI 1 from rfl, show f_X2_completed 8 1 g (upA a 36 f) (nI V - nI 1) (nI 1) = _ from e2, Option.bind_some]
      rfl
    unfold f_X2_lowestSolution
    rw [e1, Option.bind_some, e4, Option.bind_some, if_neg (show ¬ (1 : Int32) = 0 by decide), show g (12 + 2 * 1) = nI V from hX.2.2.2.1, show nI V - 1 = nI V + -nI 1 from m1s _]
    show Option.bind (f_X2_lowestSolution_22 1 g fu (upA (upA a 36 f) 37 f') (nI 0) (nI V + -nI 1)) _ = _
    rw [show f_X2_lowestSolution_22 1 g fu (upA (upA a 36 f) 37 f') (nI 0) (nI V + -nI 1) = _ from l, Option.bind_some]
theorem bits_lt {x n : Nat} (h : ∀ i, x.testBit i = true → i < n) : x < 2 ^ n := Nat.lt_pow_two_of_testBit _ fun i hi => by
  cases hb : x.testBit i
  · rfl
  · have := h i hb
    omega
theorem sol_t (h : St d R K V C pl tu ar cr an cv g a) {z : Nat → Nat} (hz : ∀ v, z v < d) (hs : SolC d C (fun c => pl (cr c)) cv (fun c => tu (cr c)) z) {c : Nat} (hc : c < C) : ∃ t, Stn d (pl (cr c)) (tu (cr c)) (cv c) t ∧ ∀ p, p < pl (cr c) → cv c p < V ∧ dg d t p = z (cv c p) := by
  obtain ⟨hB, hd, -⟩ := St_b h
  have hX := St_i h
  obtain ⟨-, -, -, -, -, -, -, -, h9⟩ := hX.2.2.2.2.2 c hc
  have hdg : ∀ p, p < pl (cr c) → dg d (nm d (fun p => z (cv c p)) (pl (cr c))) p = z (cv c p) := fun p hp => nm_dg (by omega) (pl (cr c)) (fun _ _ => hz _) p hp
  refine ⟨nm d (fun p => z (cv c p)) (pl (cr c)), ⟨nm_lt _ (fun _ _ => hz _), hs c hc, fun p p' hp hp' e => ?_⟩, fun p hp => ⟨(h9 p hp).2, hdg p hp⟩⟩
  rw [hdg p hp, hdg p' hp', e]
theorem q_left (h : St d R K V C pl tu ar cr an cv g a) {v : Nat} (hv : v < V) : ∃ x a', f_X11_left g a (nI v) = some (.inr (nI x, a')) ∧ Sm PX QX g a g a' ∧ x < 8 ∧ ∀ z : Nat → Nat, (∀ v, z v < d) → SolC d C (fun c => pl (cr c)) cv (fun c => tu (cr c)) z → x.testBit (z v) = true := by
  obtain ⟨hB, hd, -, -, -, -, hV1, hV, -, h14, -⟩ := St_b h
  have hX := St_i h
  obtain ⟨f, f', A, e1, e2⟩ := leftX hv hB hX
  have hth : ¬ t_X2_isThere 1 g a (nI v) = 0 := by
    unfold t_X2_isThere
    rw [if_neg (nI_pos (by omega)), show g (12 + 2 * 1) = nI V from h14, if_neg (nI_ge hv (by omega))]
    decide
  refine ⟨A v, upA (upA a 36 f) 36 f', ?_, Sm_A (Sm_A Sm_rfl (by decide)) (by decide), ?_, fun z hz hs => ?_⟩
  · unfold f_X11_left
    rw [if_neg hth, e1, Option.bind_some]
  · refine bits_lt (n := 3) fun i hi => ?_
    have := (MX_sup SupL_mono ((e2 v i).mp ⟨hv, hi⟩)).1.2
    omega
  · refine ((e2 v (z v)).mpr ⟨fun k u => k < V ∧ u = z k, fun k u hk => ?_, hv, rfl⟩).2
    obtain ⟨hk1, rfl⟩ := hk
    refine ⟨⟨hk1, hz k⟩, fun c hc _ => ?_⟩
    obtain ⟨t, t1, t2⟩ := sol_t h hz hs hc
    refine ⟨t, t1, fun p hp => ⟨fun e => ?_, fun _ => t2 p hp⟩⟩
    rw [(t2 p hp).2, e]
theorem pr_md {x y : Nat} (hx : x < d) : (x + d * y) % d = x ∧ (x + d * y) / d = y := by
  refine ⟨?_, ?_⟩
  · rw [Nat.add_mul_mod_self_left, Nat.mod_eq_of_lt hx]
  · rw [Nat.add_mul_div_left _ _ (by omega), Nat.div_eq_of_lt hx, Nat.zero_add]
theorem pr_lt {x y : Nat} (hd : d = 2 ∨ d = 3) (hx : x < d) (hy : y < d) : x + d * y < d * d := by
  rcases hd with rfl | rfl <;> omega
theorem q_pairs (h : St d R K V C pl tu ar cr an cv g a) {x y : Nat} (hx : x < V) (hy : y < V) (hxy : x ≠ y) : ∃ w a', f_X11_pairs g a (nI x) (nI y) = some (.inr (nI w, a')) ∧ Sm PX QX g a g a' ∧ w < 512 ∧ ∀ z : Nat → Nat, (∀ v, z v < d) → SolC d C (fun c => pl (cr c)) cv (fun c => tu (cr c)) z → w.testBit (z x + d * z y) = true := by
  obtain ⟨hB, hd, -, -, -, -, hV1, hV, -, h14, -⟩ := St_b h
  have hX := St_i h
  obtain ⟨f, f', A, e1, e2⟩ := pairsX hx hy hB hX
  have hth : ∀ v, v < V → ¬ t_X2_isThere 1 g a (nI v) = 0 := fun v hv => by
    unfold t_X2_isThere
    rw [if_neg (nI_pos (by omega)), show g (12 + 2 * 1) = nI V from h14, if_neg (nI_ge hv (by omega))]
    decide
  have hrel := relP_xy hV hx hy hxy
  have hdd := dd9 hd
  have h69 : (6 * x + y) / 6 = x ∧ (6 * x + y) % 6 = y := by omega
  refine ⟨A (6 * x + y), upA (upA a 39 f) 39 f', ?_, Sm_A (Sm_A Sm_rfl (by decide)) (by decide), ?_, fun z hz hs => ?_⟩
  · unfold f_X11_pairs
    rw [if_neg (hth x hx), if_neg (hth y hy), if_neg (fun e => hxy (nI_inj (by omega) (by omega) e)), e1, Option.bind_some]
  · refine bits_lt (n := 9) fun i hi => ?_
    have := (MX_sup SupP_mono ((e2 (6 * x + y) i).mp ⟨hrel, hi⟩)).1.2.1
    omega
  · refine ((e2 (6 * x + y) (z x + d * z y)).mpr ⟨fun k u => relP V k ∧ u = z (k / 6) + d * z (k % 6), fun k u hk => ?_, hrel, by rw [h69.1, h69.2]⟩).2
    obtain ⟨hk1, rfl⟩ := hk
    obtain ⟨m1, m2⟩ := pr_md (d := d) (x := z (k / 6)) (y := z (k % 6)) (hz _)
    refine ⟨⟨hk1, pr_lt hd (hz _) (hz _), fun c hc => ?_⟩, fun w hw hw1 hw2 => ?_⟩
    · obtain ⟨t, t1, t2⟩ := sol_t h hz hs hc
      refine ⟨t, t1, fun p hp e => ?_, fun p hp e => ?_⟩
      · rw [(t2 p hp).2, e, m1]
      · rw [(t2 p hp).2, e, m2]
    · obtain ⟨k1, k2, k3, k4⟩ := hk1
      refine ⟨z w, hz w, ⟨relP_xy hV k2 hw (fun e => hw1 e.symm), ?_⟩, ⟨relP_xy hV hw k3 hw2, ?_⟩⟩
      · rw [m1, show (6 * (k / 6) + w) / 6 = k / 6 by omega, show (6 * (k / 6) + w) % 6 = w by omega]
      · rw [m2, show (6 * w + k % 6) / 6 = w by omega, show (6 * w + k % 6) % 6 = k % 6 by omega]
theorem ins111 {g0 : xG} {a0 : xA} (h : St d R K V C pl tu ar cr an cv g0 a0) {c v : Nat} (hc : c < d ^ V) (hs : SolC d C (fun c => pl (cr c)) cv (fun c => tu (cr c)) (dg d c)) (hv : v < V) {m : Nat} (hm : 0 < m) (hm7 : m ≤ 729) {K52 : xA → Int32 → Int32 → Int32 → Int32 → Int32 → Int32 → Option (Int32 × xA)} : ∀ (r w n : Nat) (a : xA), w + r = v → r < n → Sm PX QX g0 a0 g0 a →
    ∃ a', f_L_instances_111 g0 K52 n a (nI d) (nI V) (nI m) (nI c) 1 (nI v) (nI w) = K52 a' (nI d) (nI V) (nI m) (nI c) 1 (nI (v + 1)) ∧ Sm PX QX g0 a0 g0 a'
  | 0, w, n, a, hw, hn, s => by
    obtain ⟨n, rfl⟩ := pos_of hn
    obtain ⟨-, -, -, -, -, -, -, hV, -⟩ := St_b h
    refine ⟨a, ?_, s⟩
    rw [e_L_instances_111, if_pos (nI_le (by omega) (by omega)), show nI v + 1 = nI (v + 1) from nI_1 v]
  | r + 1, w, n, a, hw, hn, s => by
    obtain ⟨n, rfl⟩ := pos_of hn
    obtain ⟨hB, hd, -, -, -, -, -, hV, -⟩ := St_b h
    have hd0 : 0 < d := by omega
    have h7 := pw6 hd hV
    have hdd := dd9 hd
    have zl : ∀ u, dg d c u < d := fun u => dg_lt hd0 _ _
    have hwv : w < v := by omega
    obtain ⟨p1, a1, e1, s1, q1, r1⟩ := q_pairs (St_fr h s) (x := w) (y := v) (by omega) hv (by omega)
    obtain ⟨p2, a2, e2, s2, q2, r2⟩ := q_pairs (St_fr h (Sm_tr s s1)) (x := v) (y := w) hv (by omega) (by omega)
    obtain ⟨a3, e3, s3⟩ := ins111 h hc hs hv hm hm7 (K52 := K52) r (w + 1) n a2 (by omega) (by omega) (Sm_tr (Sm_tr s s1) s2)
    refine ⟨a3, ?_, s3⟩
    have l1 := pr_lt hd (zl w) (zl v)
    have l2 := pr_lt hd (zl v) (zl w)
    rw [← e3, e_L_instances_111, if_neg (nI_ge hwv (by omega)), if_neg (show ¬ (1 : Int32) = 0 by decide), if_neg (show ¬ nI m ≤ 0 from nI_nle hm (by omega)), val_ok hd (by omega) (by omega), Option.bind_some, val_ok hd (by omega) (by omega), Option.bind_some, Option.bind_some, Option.bind_some, e1, rgt_r, Option.bind_some]
    dsimp only
    rw [pk_mul, nI_add, bit_at (by omega) (by omega), r1 _ zl hs, if_pos rfl, if_pos (show nI 1 = 1 from rfl), e2, rgt_r, Option.bind_some]
    dsimp only
    rw [pk_mul, nI_add, bit_at (by omega) (by omega), r2 _ zl hs, if_pos rfl, if_pos (show nI 1 = 1 from rfl), show nI w + 1 = nI (w + 1) from nI_1 w]
theorem ins52 {g0 : xG} {a0 : xA} (h : St d R K V C pl tu ar cr an cv g0 a0) {c : Nat} (hc : c < d ^ V) (hs : SolC d C (fun c => pl (cr c)) cv (fun c => tu (cr c)) (dg d c)) {m : Nat} (hm : 0 < m) (hm7 : m ≤ 729) : ∀ (r v n : Nat) (a : xA), v + r = V → r < n → Sm PX QX g0 a0 g0 a →
    ∃ a', f_L_instances_52 g0 n a (nI d) (nI V) (nI m) (nI c) 1 (nI v) = some (1, a') ∧ Sm PX QX g0 a0 g0 a'
  | 0, v, n, a, hw, hn, s => by
    obtain ⟨n, rfl⟩ := pos_of hn
    obtain ⟨-, -, -, -, -, -, -, hV, -⟩ := St_b h
    refine ⟨a, ?_, s⟩
    rw [e_L_instances_52, if_pos (nI_le (by omega) (by omega)), ck_t bo1]
  | r + 1, v, n, a, hw, hn, s => by
    obtain ⟨n, rfl⟩ := pos_of hn
    obtain ⟨hB, hd, -, -, -, -, -, hV, -⟩ := St_b h
    have hd0 : 0 < d := by omega
    have h7 := pw6 hd hV
    have zl : ∀ u, dg d c u < d := fun u => dg_lt hd0 _ _
    have hv : v < V := by omega
    obtain ⟨x, a1, e1, s1, q1, r1⟩ := q_left (St_fr h s) hv
    have hx := r1 _ zl hs
    obtain ⟨a2, e2, s2⟩ := ins111 h hc hs hv hm hm7 (K52 := f_L_instances_52 g0 n) v 0 fu a1 (by omega) (fu_gt (by omega)) (Sm_tr s s1)
    obtain ⟨a3, e3, s3⟩ := ins52 h hc hs hm hm7 r (v + 1) n a2 (by omega) (by omega) s2
    refine ⟨a3, ?_, s3⟩
    have hx0 : x ≠ 0 := fun e => by
      rw [e, Nat.zero_testBit] at hx
      cases hx
    have e80 : f_L_instances_80 g0 (f_L_instances_52 g0 n) a1 (nI d) (nI V) (nI m) (nI c) (nI v) (nI x) = some (1, a3) := by
      have zv := zl v
      unfold f_L_instances_80
      rw [if_neg (nI_ne0 (by omega) (by omega)), val_ok hd (by omega) (by omega), Option.bind_some, bit_at (by omega) (by omega), hx, if_pos rfl, if_pos (show nI 1 = 1 from rfl)]
      exact e2.trans e3
    rw [e_L_instances_52, if_neg (nI_ge hv (by omega)), if_neg (show ¬ (1 : Int32) = 0 by decide), e1, rgt_r, Option.bind_some]
    dsimp only
    rw [if_neg (nI_ne0 (by omega) (by omega))]
    exact e80
theorem ins52z {g0 : xG} {a0 : xA} (h : St d R K V C pl tu ar cr an cv g0 a0) : ∀ (r v n : Nat) (a : xA), v + r = V → r < n → Sm PX QX g0 a0 g0 a →
    ∃ a', f_L_instances_52 g0 n a (nI d) (nI V) 0 (-1) 1 (nI v) = some (1, a') ∧ Sm PX QX g0 a0 g0 a'
  | 0, v, n, a, hw, hn, s => by
    obtain ⟨n, rfl⟩ := pos_of hn
    obtain ⟨-, -, -, -, -, -, -, hV, -⟩ := St_b h
    refine ⟨a, ?_, s⟩
    rw [e_L_instances_52, if_pos (nI_le (by omega) (by omega)), ck_t bo1]
  | r + 1, v, n, a, hw, hn, s => by
    obtain ⟨n, rfl⟩ := pos_of hn
    obtain ⟨hB, hd, -, -, -, -, -, hV, -⟩ := St_b h
    have hv : v < V := by omega
    obtain ⟨x, a1, e1, s1, q1, r1⟩ := q_left (St_fr h s) hv
    obtain ⟨a3, e3, s3⟩ := ins52z h r (v + 1) n a1 (by omega) (by omega) (Sm_tr s s1)
    refine ⟨a3, ?_, s3⟩
    have e111 : f_L_instances_111 g0 (f_L_instances_52 g0 n) fu a1 (nI d) (nI V) 0 (-1) 1 (nI v) 0 = some (1, a3) := by
      rw [show fu = 999999 + 1 from rfl, e_L_instances_111, show nI v + 1 = nI (v + 1) from nI_1 v]
      by_cases q : nI v ≤ 0
      · rw [if_pos q]; exact e3
      · rw [if_neg q, if_neg (show ¬ (1 : Int32) = 0 by decide), if_pos (show (0 : Int32) ≤ 0 by decide)]; exact e3
    have e80 : f_L_instances_80 g0 (f_L_instances_52 g0 n) a1 (nI d) (nI V) 0 (-1) (nI v) (nI x) = some (1, a3) := by
      unfold f_L_instances_80
      rw [if_pos rfl]
      exact e111
    rw [e_L_instances_52, if_neg (nI_ge hv (by omega)), if_neg (show ¬ (1 : Int32) = 0 by decide), e1, rgt_r, Option.bind_some]
    dsimp only
    by_cases q : nI x = 0
    · rw [if_pos q, if_pos rfl]
      exact e80
    · rw [if_neg q]
      exact e80
theorem q_instances (h : St d R K V C pl tu ar cr an cv g a) : ∃ a', f_L_instances g a (nI d) (nI V) = some (1, a') ∧ Sm PX QX g a g a' := by
  obtain ⟨hB, hd, -, -, -, -, -, hV, -⟩ := St_b h
  have h7 := pw6 hd hV
  obtain ⟨a1, e1, s1⟩ := q_solutions h
  obtain ⟨a2, s2, e2⟩ := q_solve (St_fr h s1)
  obtain ⟨a3, e3, s3⟩ := q_anew (St_fr h (Sm_tr s1 s2))
  have s4 := Sm_tr (Sm_tr s1 s2) s3
  have hl := nSol_le (d := d) (V := V) (C := C) (pl := pl) (tu := tu) (cr := cr) (cv := cv) hd hV
  rcases e2 with ⟨z, e2⟩ | ⟨z, c, c1, c2, -, e2⟩
  · obtain ⟨a5, e5, s5⟩ := ins52z h V 0 fu a3 (by omega) (fu_gt (by omega)) s4
    refine ⟨a5, ?_, s5⟩
    unfold f_L_instances
    rw [e1, Option.bind_some]
    dsimp only
    rw [e2, Option.bind_some]
    dsimp only
    rw [e3, Option.bind_some]
    dsimp only
    rw [if_pos rfl, z, if_pos (show nI 0 = 0 from rfl)]
    unfold f_L_instances_28
    rw [if_pos rfl]
    unfold f_L_instances_39
    rw [if_pos rfl]
    exact e5
  · obtain ⟨a5, e5, s5⟩ := ins52 h c1 c2 z hl V 0 fu a3 (by omega) (fu_gt (by omega)) s4
    refine ⟨a5, ?_, s5⟩
    have hne : ¬ nI c = -1 := fun e => by
      have : (-1 : Int32) < 0 := by decide
      exact nI_pos (n := c) (by omega) (by rw [e]; exact this)
    unfold f_L_instances
    rw [e1, Option.bind_some]
    dsimp only
    rw [e2, Option.bind_some]
    dsimp only
    rw [e3, Option.bind_some]
    dsimp only
    rw [if_pos rfl, if_neg (nI_ne0 z (by omega))]
    unfold f_L_instances_28
    rw [if_neg hne]
    unfold f_L_instances_39
    rw [if_pos rfl]
    exact e5
end IN
