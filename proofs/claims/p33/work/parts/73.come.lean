/-! The images of a set under an operation: the model. -/
theorem ck_t {α : Type} {b : Bool} {k : Option α} (h : b = true) : ck b k = k := by subst h; rfl
theorem inB_t {i N : Nat} (h : i < N) (hN : N < 2 ^ 31) : inB (nI i) N = true := by
  unfold inB
  exact decide_eq_true (nI_in h hN)
theorem nzB_t {i : Nat} (h : 0 < i) (hN : i < 2 ^ 31) : nzB (nI i) = true := by
  unfold nzB
  exact decide_eq_true (nI_ne0 h hN)
theorem boB_0 : boB (nI 0) = true := by decide
theorem boB_1 : boB (nI 1) = true := by decide
theorem boB_b {i : Nat} (h : i = 0 ∨ i = 1) : boB (nI i) = true := by
  rcases h with rfl | rfl
  · exact boB_0
  · exact boB_1
theorem pw_loop {g : xG} {a : xA} {d w : Nat} (hw : w < 1000) (h0 : g 0 = nI d) : ∀ (r p n : Nat), p + r = w → r < n → f_X12_power_4 g a n (nI w) (nI (d ^ p)) (nI p) = some (nI (d ^ w))
  | 0, p, n, hp, hn => by
    obtain ⟨n, rfl⟩ := pos_of hn
    have e : p = w := by omega
    subst e
    rw [e_X12_power_4, if_pos (nI_le (by omega) (by omega))]
  | r + 1, p, n, hp, hn => by
    obtain ⟨n, rfl⟩ := pos_of hn
    rw [e_X12_power_4, if_neg (nI_ge (by omega) (by omega)), h0]
    simp only [z0, z1, z2, z3, z4, z5, z6, z7, z8, z9, z16, z27, z31, z32, z36, z60, nI_add, pk_mul, m1s]
    rw [← Nat.pow_succ]
    exact pw_loop hw h0 r (p + 1) n (by omega) (by omega)
theorem pwM {g : xG} {a : xA} {d w : Nat} (hw : w < 1000) (h0 : g 0 = nI d) : f_X12_power g a (nI w) = some (nI (d ^ w)) := by
  have := pw_loop (a := a) hw h0 w 0 fu (by omega) (fu_gt (by omega))
  unfold f_X12_power
  simp only [z0, z1, z2, z3, z4, z5, z6, z7, z8, z9, z16, z27, z31, z32, z36, z60, nI_add, pk_mul, m1s]
  exact this
theorem onM {g : xG} {a : xA} {d c p : Nat} (hd : d = 2 ∨ d = 3) (hp : p ≤ 6) (h0 : g 0 = nI d) (hc : c < 2 ^ 31) : f_X12_on g a (nI c) (nI p) = some (nI (dg d c p)) := by
  have h1 := pw6 hd hp
  have h2 := pwp hd p
  have h3 : c / d ^ p < 2 ^ 31 := Nat.lt_of_le_of_lt (Nat.div_le_self ..) hc
  unfold f_X12_on
  rw [pwM (by omega) h0, Option.bind_some, ck_t (nzB_t h2 (by omega)), h0, ck_t (nzB_t (by omega) (by omega)), pk_div hc h2 (by omega), pk_rem h3 (by omega) (by omega)]
  rfl
def OpM (d op w : Nat) (T : Nat → Nat) (a : xA) : Prop := op ≤ 6 ∧ 1 ≤ w ∧ w ≤ 3 ∧ ∀ p, p < d ^ w → a 4 (27 * op + p) = nI (T p) ∧ T p < d
theorem OpM_sm {d op w : Nat} {T : Nat → Nat} {P Q : List Nat} {g g' : xG} {a a' : xA} (h : OpM d op w T a) (s : Sm P Q g a g' a') (h4 : ¬ 4 ∈ Q := by decide) : OpM d op w T a' :=
  ⟨h.1, h.2.1, h.2.2.1, fun p hp => ⟨(congrFun (s.2 4 h4) _).trans (h.2.2.2 p hp).1, (h.2.2.2 p hp).2⟩⟩
theorem hn_sh (d : Nat) (f : Nat → Nat) (p r : Nat) : nm d (fun q => f (p + 1 + q)) r * d + f p = nm d (fun q => f (p + q)) (r + 1) := by
  rw [nm_cons]
  have : nm d (fun q => f (p + 1 + q)) r = nm d (fun q => f (p + (q + 1))) r := nm_cong fun k _ => by
    show f (p + 1 + k) = f (p + (k + 1))
    rw [show p + 1 + k = p + (k + 1) by omega]
  rw [this]
  rfl
theorem hn_0 (d : Nat) (f : Nat → Nat) (r : Nat) : nm d (fun q => f (0 + q)) r = nm d f r := nm_cong fun k _ => by rw [Nat.zero_add]
theorem ap_in {g : xG} {a : xA} {d op w j x4 : Nat} {T x : Nat → Nat} {K : Int32 → Int32 → Int32 → Int32 → Option Int32} (hd : d = 2 ∨ d = 3) (h0 : g 0 = nI d) (hO : OpM d op w T a) (hj : j ≤ 6) (hx : ∀ p, p < w → a 11 p = nI (x p) ∧ x p < 27) :
    ∀ (p r n : Nat), p + r = w → p < n → f_X12_applied_21 g a K n (nI op) (nI w) (nI x4) (nI j) (nI (nm d (fun q => dg d (x (p + q)) j) r)) (nI p + -nI 1) = K (nI op) (nI w) (nI (x4 * d + T (nm d (fun q => dg d (x q) j) w))) (nI j + -nI 1)
  | 0, r, n, hp, hn => by
    obtain ⟨n, rfl⟩ := pos_of hn
    have e : r = w := by omega
    subst e
    have hl := nm_lt (d := d) (f := fun q => dg d (x q) j) r (fun p _ => dg_lt (by omega) _ _)
    have h27 := pw3 hd hO.2.2.1
    have hop := hO.1
    rw [e_X12_applied_21, if_pos (show nI 0 + -nI 1 < 0 from m1z), hn_0 d (fun q => dg d (x q) j), h0]
    simp only [z0, z1, z2, z3, z4, z5, z6, z7, z8, z9, z16, z27, z31, z32, z36, z60, nI_add, pk_mul, m1s]
    rw [ck_t (inB_t (by omega) (by decide)), nI_clamp (by omega), (hO.2.2.2 _ hl).1]
    simp only [z0, z1, z2, z3, z4, z5, z6, z7, z8, z9, z16, z27, z31, z32, z36, z60, nI_add, pk_mul, m1s]
  | p + 1, r, n, hp, hn => by
    obtain ⟨n, rfl⟩ := pos_of hn
    have h3 := hO.2.2.1
    have hxp := hx p (by omega)
    rw [e_X12_applied_21, m1p, if_neg (nI_pos (by omega)), ck_t (inB_t (by omega) (by decide)), nI_clamp (by omega), hxp.1, onM hd hj h0 (by omega), Option.bind_some, h0]
    simp only [z0, z1, z2, z3, z4, z5, z6, z7, z8, z9, z16, z27, z31, z32, z36, z60, nI_add, pk_mul, m1s]
    rw [hn_sh d (fun q => dg d (x q) j)]
    exact ap_in hd h0 hO hj hx p (r + 1) n (by omega) (by omega)
theorem ap_out {g : xG} {a : xA} {d op w n0 : Nat} {T x : Nat → Nat} (hd : d = 2 ∨ d = 3) (h0 : g 0 = nI d) (hO : OpM d op w T a) (hn0 : n0 ≤ 6) (hx : ∀ p, p < w → a 11 p = nI (x p) ∧ x p < 27) :
    ∀ (p r n : Nat), p + r = n0 → p < n → f_X12_applied_8 g a n (nI op) (nI w) (nI (nm d (fun j => T (nm d (fun q => dg d (x q) (p + j)) w)) r)) (nI p + -nI 1) = some (nI (apl d w T n0 x))
  | 0, r, n, hp, hn => by
    obtain ⟨n, rfl⟩ := pos_of hn
    have e : r = n0 := by omega
    subst e
    rw [e_X12_applied_8, if_pos (show nI 0 + -nI 1 < 0 from m1z), hn_0 d (fun j => T (nm d (fun q => dg d (x q) j) w))]
    rfl
  | p + 1, r, n, hp, hn => by
    obtain ⟨n, rfl⟩ := pos_of hn
    have h3 := hO.2.2.1
    rw [e_X12_applied_8, m1p, if_neg (nI_pos (by omega))]
    have := ap_in (K := f_X12_applied_8 g a n) (j := p) (x4 := nm d (fun j => T (nm d (fun q => dg d (x q) (p + 1 + j)) w)) r) hd h0 hO (by omega) hx w 0 fu (by omega) (fu_gt (by omega))
    simp only [z0, z1, z2, z3, z4, z5, z6, z7, z8, z9, z16, z27, z31, z32, z36, z60, nI_add, pk_mul, m1s] at this ⊢
    rw [show nm d (fun q => dg d (x (w + q)) p) 0 = 0 from rfl] at this
    rw [this, hn_sh d (fun j => T (nm d (fun q => dg d (x q) j) w))]
    exact ap_out hd h0 hO hn0 hx p (r + 1) n (by omega) (by omega)
theorem apM {g : xG} {a : xA} {d op w n0 : Nat} {T x : Nat → Nat} (hd : d = 2 ∨ d = 3) (h0 : g 0 = nI d) (hO : OpM d op w T a) (hn0 : n0 ≤ 6) (hx : ∀ p, p < w → a 11 p = nI (x p) ∧ x p < 27) :
    f_X12_applied g a (nI op) (nI w) (nI n0) = some (nI (apl d w T n0 x)) := by
  have := ap_out hd h0 hO hn0 hx n0 0 fu (by omega) (fu_gt (by omega))
  rw [show nm d (fun j => T (nm d (fun q => dg d (x q) (n0 + j)) w)) 0 = 0 from rfl] at this
  unfold f_X12_applied
  simp only [z0, z1, z2, z3, z4, z5, z6, z7, z8, z9, z16, z27, z31, z32, z36, z60, nI_add, pk_mul, m1s] at this ⊢
  exact this
theorem isInM {m s : Nat} (hm : m < 32) (hs : s < 2 ^ 31) {g : xG} {a : xA} : t_X12_isIn g a (nI s) (nI m) = if s.testBit m then 1 else 0 := by
  have h := isIn_nI hm hs
  unfold isInF at h
  unfold t_X12_isIn
  have e1 : nI s >>> (nI m &&& 31) = nI (s / 2 ^ m) := pk_shrN hs _ m (sh_l m hm)
  have e2 : nI (s / 2 ^ m) &&& 1 = nI (s / 2 ^ m % 2) := by
    have := nI_and (s / 2 ^ m) 1
    rw [and1] at this
    exact this
  rw [e1, e2, tb_mod]
  cases hb : s.testBit m
  · rw [if_neg (by decide), if_neg (by decide)]
  · rw [if_pos (by decide), if_pos rfl]
theorem dg_step (M q p : Nat) : q / M ^ p / M = q / M ^ (p + 1) := by rw [Nat.div_div_eq_div_mul, Nat.pow_succ]
theorem pb_loop {g : xG} {q w M s : Nat} (hw : w ≤ 3) (hM : 0 < M) (hM2 : M ≤ 27) (hs : s < 2 ^ 31) (hq : q < 2 ^ 31) : ∀ (r p n : Nat) (a : xA) (fl : Nat), p + r = w → r < n → (fl = 0 ∨ fl = 1) → (fl = 1 ↔ ∀ p', p' < p → s.testBit (dg M q p') = true) → (∀ p', p' < p → a 11 p' = nI (dg M q p')) →
    ∃ (fl' : Nat) (f : Nat → Int32), f_X12_picksBy_9 g n a (nI w) (nI M) (nI s) (nI (q / M ^ p)) (nI fl) (nI p) = some (nI fl', upA a 11 f) ∧ (fl' = 0 ∨ fl' = 1) ∧ (fl' = 1 ↔ ∀ p', p' < w → s.testBit (dg M q p') = true) ∧ (∀ p', p' < w → f p' = nI (dg M q p'))
  | 0, p, n, a, fl, hp, hn, h1, h2, h3 => by
    obtain ⟨n, rfl⟩ := pos_of hn
    have e : p = w := by omega
    subst e
    refine ⟨fl, a 11, ?_, h1, h2, h3⟩
    rw [e_X12_picksBy_9, if_pos (nI_le (by omega) (by omega)), ck_t (boB_b h1), upA_id]
  | r + 1, p, n, a, fl, hp, hn, h1, h2, h3 => by
    obtain ⟨n, rfl⟩ := pos_of hn
    have hqp : q / M ^ p < 2 ^ 31 := Nat.lt_of_le_of_lt (Nat.div_le_self ..) hq
    have hdm : dg M q p < M := dg_lt hM q p
    have hg : ∀ fl1 : Nat, (fl1 = 0 ∨ fl1 = 1) → (fl1 = 1 ↔ ∀ p', p' < p + 1 → s.testBit (dg M q p') = true) →
      ∃ (fl' : Nat) (f : Nat → Int32), f_X12_picksBy_9 g n (upA a 11 (upd (a 11) p (nI (dg M q p)))) (nI w) (nI M) (nI s) (nI (q / M ^ (p + 1))) (nI fl1) (nI (p + 1)) = some (nI fl', upA a 11 f) ∧ (fl' = 0 ∨ fl' = 1) ∧ (fl' = 1 ↔ ∀ p', p' < w → s.testBit (dg M q p') = true) ∧ (∀ p', p' < w → f p' = nI (dg M q p')) := fun fl1 k1 k2 => by
      obtain ⟨fl', f, q1, q2⟩ := pb_loop (g := g) hw hM hM2 hs hq r (p + 1) n (upA a 11 (upd (a 11) p (nI (dg M q p)))) fl1 (by omega) (by omega) k1 k2 (fun p' hp' => by
        rw [upA_s]
        by_cases he : p' = p
        · rw [he, upd_s]
        · rw [upd_n _ _ he]
          exact h3 p' (by omega))
      rw [upA_2] at q1
      exact ⟨fl', f, q1, q2⟩
    rw [e_X12_picksBy_9, if_neg (nI_ge (by omega) (by omega)), ck_t (nzB_t hM (by omega)), ck_t (inB_t (by omega) (by decide)), ck_t (nzB_t hM (by omega)), ck_t (inB_t (by omega) (by decide)), nI_clamp (by omega), pk_rem hqp hM (by omega), pk_div hqp hM (by omega), dg_step, show nI p + 1 = nI (p + 1) from nI_1 p]
    rw [show q / M ^ p % M = dg M q p from rfl, upA_s, upd_s, isInM (by omega) hs]
    by_cases h0 : fl = 0
    · rw [h0, if_pos (show nI 0 = 0 from rfl), z0]
      refine hg 0 (Or.inl rfl) ⟨fun h => (by cases h), fun h => ?_⟩
      have := h2.mpr (fun p' hp' => h p' (by omega))
      omega
    · have h1 : fl = 1 := by omega
      rw [h1, if_neg (show ¬ nI 1 = 0 by decide)]
      cases hb : s.testBit (dg M q p) with
      | false =>
        rw [if_pos (by decide), z0]
        refine hg 0 (Or.inl rfl) ⟨fun h => (by cases h), fun h => ?_⟩
        rw [h p (by omega)] at hb
        cases hb
      | true =>
        rw [if_neg (by decide), z1]
        refine hg 1 (Or.inr rfl) ⟨fun _ p' hp' => ?_, fun _ => rfl⟩
        by_cases he : p' = p
        · rw [he]; exact hb
        · exact h2.mp h1 p' (by omega)
theorem pbM {g : xG} {a : xA} {q w M s : Nat} (hw : w ≤ 3) (hM : 0 < M) (hM2 : M ≤ 27) (hs : s < 2 ^ 31) (hq : q < 2 ^ 31) :
    ∃ (fl' : Nat) (f : Nat → Int32), f_X12_picksBy g a (nI q) (nI w) (nI M) (nI s) = some (nI fl', upA a 11 f) ∧ (fl' = 0 ∨ fl' = 1) ∧ (fl' = 1 ↔ ∀ p', p' < w → s.testBit (dg M q p') = true) ∧ (∀ p', p' < w → f p' = nI (dg M q p')) := by
  obtain ⟨fl', f, q1, q2⟩ := pb_loop (g := g) hw hM hM2 hs hq w 0 fu a 1 (by omega) (fu_gt (by omega)) (Or.inr rfl) ⟨fun _ p' hp' => by omega, fun _ => rfl⟩ (fun p' hp' => by omega)
  refine ⟨fl', f, ?_, q2⟩
  unfold f_X12_picksBy
  rw [Nat.pow_zero, Nat.div_one] at q1
  exact q1
theorem co_loop {g : xG} {d op w n0 s M N : Nat} {T : Nat → Nat} (hd : d = 2 ∨ d = 3) (h0 : g 0 = nI d) (hn0 : n0 ≤ 3) (hM : d ^ n0 = M) (hs : s < 2 ^ M) (hN : N = M ^ w) :
    ∀ (r n : Nat) (a : xA) (acc : Nat), r < n → r ≤ N → OpM d op w T a → acc < 2 ^ M →
    ∃ acc' a', f_X12_come_46 g n a (nI op) (nI w) (nI n0) (nI s) (nI M) (nI N) (nI acc) (nI (N - r)) = some (nI acc', a') ∧ acc' < 2 ^ M ∧ Sm [] [11] g a g a' ∧
      ∀ c, acc'.testBit c = true ↔ acc.testBit c = true ∨ ∃ q, N - r ≤ q ∧ q < N ∧ (∀ p, p < w → s.testBit (dg M q p) = true) ∧ apl d w T n0 (dg M q) = c
  | 0, n, a, acc, hn, hr, hO, ha => by
    obtain ⟨n, rfl⟩ := pos_of hn
    have hw := hO.2.2.1
    have hM2 : M ≤ 27 := hM ▸ pw3 hd hn0
    have hmw := mw3 hM2 hw
    refine ⟨acc, a, ?_, ha, Sm_rfl, fun c => ⟨Or.inl, ?_⟩⟩
    · rw [e_X12_come_46, if_pos (nI_le (by omega) (by omega))]
    · rintro (h | ⟨q, h1, h2, _⟩)
      · exact h
      · omega
  | r + 1, n, a, acc, hn, hr, hO, ha => by
    obtain ⟨n, rfl⟩ := pos_of hn
    have hw := hO.2.2.1
    have hM2 : M ≤ 27 := hM ▸ pw3 hd hn0
    have hM0 : 0 < M := hM ▸ pwp hd n0
    have hmw := mw3 hM2 hw
    have hs31 : s < 2 ^ 31 := Nat.lt_of_lt_of_le hs (Nat.pow_le_pow_right (by decide) (by omega))
    obtain ⟨fl, f, e1, e2, e3, e4⟩ := pbM (g := g) (a := a) (q := N - (r + 1)) (w := w) (M := M) (s := s) hw hM0 hM2 hs31 (by omega)
    have s1 : Sm [] [11] g a g (upA a 11 f) := Sm_A Sm_rfl (by decide)
    have hO1 := OpM_sm hO s1
    rw [e_X12_come_46, if_neg (nI_ge (by omega) (by omega)), e1, Option.bind_some, show nI (N - (r + 1)) + 1 = nI (N - r) by rw [nI_1]; congr 1; omega]
    by_cases h0' : fl = 0
    · obtain ⟨acc', a', q1, q2, q3, q4⟩ := co_loop (op := op) (T := T) hd h0 hn0 hM hs hN r n (upA a 11 f) acc (by omega) (by omega) hO1 ha
      refine ⟨acc', a', ?_, q2, Sm_tr s1 q3, fun c => ?_⟩
      · rw [h0', if_pos (show nI 0 = 0 from rfl)]
        exact q1
      · rw [q4 c]
        constructor
        · rintro (h | ⟨q, h1, h2⟩)
          · exact Or.inl h
          · exact Or.inr ⟨q, by omega, h2⟩
        · rintro (h | ⟨q, h1, h2, h3, h4⟩)
          · exact Or.inl h
          · refine Or.inr ⟨q, ?_, h2, h3, h4⟩
            by_cases he : q = N - (r + 1)
            · rw [he] at h3
              have := e3.mpr h3
              omega
            · omega
    · have h1' : fl = 1 := by omega
      have hin := e3.mp h1'
      have hl : apl d w T n0 (dg M (N - (r + 1))) < M := by
        rw [← hM]
        exact apl_lt (by omega) (fun p hp => (hO.2.2.2 p hp).2)
      obtain ⟨acc', a', q1, q2, q3, q4⟩ := co_loop (op := op) (T := T) hd h0 hn0 hM hs hN r n (upA a 11 f) (acc ||| 2 ^ apl d w T n0 (dg M (N - (r + 1)))) (by omega) (by omega) hO1 (or_lt ha hl)
      refine ⟨acc', a', ?_, q2, Sm_tr s1 q3, fun c => ?_⟩
      · rw [h1', if_neg (show ¬ nI 1 = 0 by decide)]
        dsimp only
        rw [apM (x := dg M (N - (r + 1))) hd h0 hO1 (by omega) (fun p hp => ⟨by rw [upA_s]; exact e4 p hp, by have := dg_lt hM0 (N - (r + 1)) p; omega⟩), Option.bind_some, shl_nI (by omega), nI_or]
        exact q1
      · rw [q4 c, or_bit]
        constructor
        · rintro ((h | h) | ⟨q, h1, h2⟩)
          · exact Or.inl h
          · exact Or.inr ⟨N - (r + 1), by omega, by omega, hin, h⟩
          · exact Or.inr ⟨q, by omega, h2⟩
        · rintro (h | ⟨q, h1, h2, h3, h4⟩)
          · exact Or.inl (Or.inl h)
          · by_cases he : q = N - (r + 1)
            · exact Or.inl (Or.inr (by rw [← h4, he]))
            · exact Or.inr ⟨q, by omega, h2, h3, h4⟩
theorem comeM {g : xG} {a : xA} {d op w n0 s : Nat} {T : Nat → Nat} (hd : d = 2 ∨ d = 3) (h0 : g 0 = nI d) (hn0 : n0 ≤ 3) (hs : s < 2 ^ (d ^ n0)) (hO : OpM d op w T a) :
    ∃ x a', f_X12_come g a (nI op) (nI w) (nI n0) (nI s) = some (nI x, a') ∧ x < 2 ^ (d ^ n0) ∧ (∀ c, x.testBit c = true ↔ Img d w T n0 s c) ∧ Sm [] [11] g a g a' := by
  have hw := hO.2.2.1
  have hw1 := hO.2.1
  have hM2 := pw3 hd hn0
  have hM0 := pwp hd n0
  have hmw := mw3 hM2 hw
  obtain ⟨x, a', e1, e2, e3, e4⟩ := co_loop (op := op) (T := T) (w := w) hd h0 hn0 rfl hs rfl ((d ^ n0) ^ w) fu a 0 (fu_gt (by omega)) (Nat.le_refl _) hO (Nat.two_pow_pos _)
  refine ⟨x, a', ?_, e2, fun c => ?_, e3⟩
  · unfold f_X12_come
    rw [pwM (by omega) h0, Option.bind_some]
    rw [Nat.sub_self] at e1
    have h : w = 1 ∨ w = 2 ∨ w = 3 := by omega
    rcases h with rfl | rfl | rfl
    · rw [if_pos (show nI 1 = 1 from rfl)]
      rw [Nat.pow_one] at e1
      exact e1
    · rw [if_neg (show ¬ nI 2 = 1 by decide), if_pos (show nI 2 = 2 from rfl), pk_mul]
      rw [Nat.pow_succ, Nat.pow_one] at e1
      exact e1
    · rw [if_neg (show ¬ nI 3 = 1 by decide), if_neg (show ¬ nI 3 = 2 by decide), pk_mul, pk_mul]
      rw [Nat.pow_succ, Nat.pow_succ, Nat.pow_one] at e1
      exact e1
  · rw [e4 c, Nat.zero_testBit]
    constructor
    · rintro (h | ⟨q, _, _, h3, h4⟩)
      · cases h
      · exact ⟨_, h3, h4⟩
    · rintro ⟨y, hy, h2⟩
      have hyM : ∀ p, p < w → y p < d ^ n0 := fun p hp => bit_lt hs (hy p hp)
      have hdg : ∀ p, p < w → dg (d ^ n0) (nm (d ^ n0) y w) p = y p := fun p hp => nm_dg hM0 w hyM p hp
      refine Or.inr ⟨nm (d ^ n0) y w, by omega, nm_lt w hyM, fun p hp => ?_, ?_⟩
      · rw [hdg p hp]
        exact hy p hp
      · rw [← h2]
        exact apl_cong (by omega) (fun _ _ => rfl) hdg
