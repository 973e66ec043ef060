/-! has. -/
/-- a verdict -/
def Ver (o : Option Int32) (Q : Prop) : Prop := (o = some (nI 1) ∧ Q) ∨ (o = some (nI 0) ∧ ¬ Q)
theorem Ver_iff {o : Option Int32} {Q Q' : Prop} (h : Q ↔ Q') (v : Ver o Q) : Ver o Q' := by
  rcases v with ⟨h1, h2⟩ | ⟨h1, h2⟩
  · exact Or.inl ⟨h1, h.mp h2⟩
  · exact Or.inr ⟨h1, fun q => h2 (h.mpr q)⟩
theorem Ver_two {o o' : Option Int32} {Q : Prop} (v : Ver o Q) (v' : Ver o' Q) : ∃ b : Nat, (b = 0 ∨ b = 1) ∧ o = some (nI b) ∧ o' = some (nI b) := by
  rcases v with ⟨h1, h2⟩ | ⟨h1, h2⟩ <;> rcases v' with ⟨h3, h4⟩ | ⟨h3, h4⟩
  · exact ⟨1, Or.inr rfl, h1, h3⟩
  · exact absurd h2 h4
  · exact absurd h4 h2
  · exact ⟨0, Or.inl rfl, h1, h3⟩
theorem ver_up (F : Nat → Nat → Option Int32) (P : Nat → Prop) (N : Nat) (he : ∀ n, F (n + 1) N = some (nI 1)) (hs : ∀ n p, p < N → (P p → F (n + 1) p = F n (p + 1)) ∧ (¬ P p → F (n + 1) p = some (nI 0))) :
    ∀ (r p n : Nat), p + r = N → r < n → Ver (F n p) (∀ q, p ≤ q → q < N → P q)
  | 0, p, n, hp, hn => by
    obtain ⟨n, rfl⟩ := pos_of hn
    have e : p = N := by omega
    subst e
    exact Or.inl ⟨he n, fun q h1 h2 => by omega⟩
  | r + 1, p, n, hp, hn => by
    obtain ⟨n, rfl⟩ := pos_of hn
    obtain ⟨h1, h2⟩ := hs n p (by omega)
    by_cases h : P p
    · rw [h1 h]
      refine Ver_iff ⟨fun q x h3 h4 => ?_, fun q x h3 h4 => q x (by omega) h4⟩ (ver_up F P N he hs r (p + 1) n (by omega) (by omega))
      by_cases hx : x = p
      · rw [hx]; exact h
      · exact q x (by omega) h4
    · exact Or.inr ⟨h2 h, fun q => h (q p (Nat.le_refl _) (by omega))⟩
theorem ver_fl (F : Nat → Nat → Nat → Option Int32) (P : Nat → Prop) (N : Nat) (he : ∀ n b, (b = 0 ∨ b = 1) → F (n + 1) b N = some (nI b)) (h0 : ∀ n p, p < N → F (n + 1) 0 p = F n 0 (p + 1) ∨ F (n + 1) 0 p = some (nI 0)) (hs : ∀ n p, p < N → (P p → F (n + 1) 1 p = F n 1 (p + 1)) ∧ (¬ P p → F (n + 1) 1 p = F n 0 (p + 1))) :
    ∀ (r p n b : Nat), p + r = N → r < n → (b = 0 ∨ b = 1) → Ver (F n b p) (b = 1 ∧ ∀ q, p ≤ q → q < N → P q)
  | 0, p, n, b, hp, hn, hb => by
    obtain ⟨n, rfl⟩ := pos_of hn
    have e : p = N := by omega
    subst e
    rcases hb with rfl | rfl
    · exact Or.inr ⟨he n 0 (Or.inl rfl), fun q => by cases q.1⟩
    · exact Or.inl ⟨he n 1 (Or.inr rfl), rfl, fun q h1 h2 => by omega⟩
  | r + 1, p, n, b, hp, hn, hb => by
    obtain ⟨n, rfl⟩ := pos_of hn
    rcases hb with rfl | rfl
    · rcases h0 n p (by omega) with h | h
      · rw [h]
        exact Ver_iff ⟨fun q => (by cases q.1), fun q => (by cases q.1)⟩ (ver_fl F P N he h0 hs r (p + 1) n 0 (by omega) (by omega) (Or.inl rfl))
      · exact Or.inr ⟨h, fun q => by cases q.1⟩
    · obtain ⟨h1, h2⟩ := hs n p (by omega)
      by_cases h : P p
      · rw [h1 h]
        refine Ver_iff ⟨fun q => ⟨rfl, fun x h3 h4 => ?_⟩, fun q => ⟨rfl, fun x h3 h4 => q.2 x (by omega) h4⟩⟩ (ver_fl F P N he h0 hs r (p + 1) n 1 (by omega) (by omega) (Or.inr rfl))
        by_cases hx : x = p
        · rw [hx]; exact h
        · exact q.2 x (by omega) h4
      · rw [h2 h]
        refine Ver_iff ⟨fun q => (by cases q.1), fun q => absurd (q.2 p (Nat.le_refl _) (by omega)) h⟩ (ver_fl F P N he h0 hs r (p + 1) n 0 (by omega) (by omega) (Or.inl rfl))
/-- a flag that goes through a row -/
theorem ver_in {α : Type} (F : Nat → Nat → Nat → Option α) (K : Nat → Option α) (P : Nat → Prop) (N : Nat) (he : ∀ n b, (b = 0 ∨ b = 1) → F (n + 1) b N = K b) (h0 : ∀ n p, p < N → F (n + 1) 0 p = F n 0 (p + 1) ∨ F (n + 1) 0 p = K 0) (hs : ∀ n p, p < N → (P p → F (n + 1) 1 p = F n 1 (p + 1)) ∧ (¬ P p → F (n + 1) 1 p = F n 0 (p + 1))) :
    ∀ (r p n b : Nat), p + r = N → r < n → (b = 0 ∨ b = 1) → ∃ b', F n b p = K b' ∧ (b' = 0 ∨ b' = 1) ∧ (b' = 1 ↔ b = 1 ∧ ∀ q, p ≤ q → q < N → P q)
  | 0, p, n, b, hp, hn, hb => by
    obtain ⟨n, rfl⟩ := pos_of hn
    have e : p = N := by omega
    subst e
    exact ⟨b, he n b hb, hb, fun h => ⟨h, fun q h1 h2 => by omega⟩, fun h => h.1⟩
  | r + 1, p, n, b, hp, hn, hb => by
    obtain ⟨n, rfl⟩ := pos_of hn
    rcases hb with rfl | rfl
    · rcases h0 n p (by omega) with h | h
      · obtain ⟨b', q1, q2, q3⟩ := ver_in F K P N he h0 hs r (p + 1) n 0 (by omega) (by omega) (Or.inl rfl)
        exact ⟨b', h.trans q1, q2, fun h => absurd (q3.mp h).1 (by decide), fun h => absurd h.1 (by decide)⟩
      · exact ⟨0, h, Or.inl rfl, fun h => absurd h (by decide), fun h => absurd h.1 (by decide)⟩
    · obtain ⟨h1, h2⟩ := hs n p (by omega)
      by_cases h : P p
      · obtain ⟨b', q1, q2, q3⟩ := ver_in F K P N he h0 hs r (p + 1) n 1 (by omega) (by omega) (Or.inr rfl)
        refine ⟨b', (h1 h).trans q1, q2, fun h5 => ⟨rfl, fun x h3 h4 => ?_⟩, fun h5 => q3.mpr ⟨rfl, fun x h3 h4 => h5.2 x (by omega) h4⟩⟩
        by_cases hx : x = p
        · rw [hx]; exact h
        · exact (q3.mp h5).2 x (by omega) h4
      · obtain ⟨b', q1, q2, q3⟩ := ver_in F K P N he h0 hs r (p + 1) n 0 (by omega) (by omega) (Or.inl rfl)
        exact ⟨b', (h2 h).trans q1, q2, fun h5 => absurd (q3.mp h5).1 (by decide), fun h5 => absurd (h5.2 p (Nat.le_refl _) (by omega)) h⟩
def pt (d w x y z : Nat) : Nat := x + (if 2 ≤ w then d * y else 0) + (if 3 ≤ w then d * d * z else 0)
theorem pt_lt {d w x y z : Nat} (hd : d = 2 ∨ d = 3) (h1 : 1 ≤ w) (h3 : w ≤ 3) (hx : x < d) (hy : y < d) (hz : z < d) : pt d w x y z < d ^ w := by
  have hw : w = 1 ∨ w = 2 ∨ w = 3 := by omega
  unfold pt
  rcases hd with rfl | rfl <;> rcases hw with rfl | rfl | rfl <;> simp <;> omega
theorem ptX {k d w x y z : Nat} {T : Nat → Nat} {g : xG} {a : xA} (hB : Bas d g a) (hO : Opr d k w T g a) : t_X5_pointOf k g a (nI x) (nI y) (nI z) = nI (pt d w x y z) := by
  have h3 := hO.2.2.2.1
  have hw : w = 1 ∨ w = 2 ∨ w = 3 := by have := hO.2.2.1; omega
  have e1 : t_X4_power g a 1 = nI d := by
    have := power_B (n := 1) hB (by decide)
    rw [Nat.pow_one] at this
    exact this
  have e2 : t_X4_power g a 2 = nI (d * d) := by
    have := power_B (n := 2) hB (by decide)
    rw [Nat.pow_succ, Nat.pow_one] at this
    exact this
  unfold t_X5_pointOf pt
  rw [hO.2.1, e1, e2]
  simp only [pk_mul, nI_add]
  rcases hw with rfl | rfl | rfl
  · rw [if_pos (by decide), if_pos (by decide), if_neg (by decide), if_neg (by decide)]
    rfl
  · rw [if_neg (by decide), if_pos (by decide), if_pos (by decide), if_neg (by decide)]
    rfl
  · rw [if_neg (by decide), if_neg (by decide), if_pos (by decide), if_pos (by decide)]
theorem ansF {k d w x y z : Nat} {T : Nat → Nat} {g : xG} {a : xA} (hB : Bas d g a) (hO : Opr d k w T g a) (hx : x < d) (hy : y < d) (hz : z < d) : t_X5_answerFor k g a (nI x) (nI y) (nI z) = nI (T (pt d w x y z)) := by
  have hl := pt_lt hB.1 hO.2.2.1 hO.2.2.2.1 hx hy hz
  have h27 := pw3 hB.1 hO.2.2.2.1
  unfold t_X5_answerFor t_X5_answerAt
  rw [ptX hB hO, at_in (by omega) (by decide), (hO.2.2.2.2 _ hl).1]
theorem ansA {k d w x : Nat} {T : Nat → Nat} {g : xG} {a : xA} (hd : d = 2 ∨ d = 3) (hO : Opr d k w T g a) (hx : x < d ^ w) : t_X5_answerAt k g a (nI x) = nI (T x) := by
  have h27 := pw3 hd hO.2.2.2.1
  unfold t_X5_answerAt
  rw [at_in (by omega) (by decide), (hO.2.2.2.2 _ hx).1]
theorem ansW {op d w x y z : Nat} {T : Nat → Nat} {g : xG} {a : xA} (hd : d = 2 ∨ d = 3) (h0 : g 0 = nI d) (hO : OpM d op w T a) (hl : x + d * y + d * d * z < d ^ w) : f_X12_answer g a (nI op) (nI x) (nI y) (nI z) = some (nI (T (x + d * y + d * d * z))) := by
  have h27 := pw3 hd hO.2.2.1
  have hop := hO.1
  unfold f_X12_answer
  rw [h0]
  simp only [z27, pk_mul, nI_add]
  rw [show 27 * op + x + d * y + d * d * z = 27 * op + (x + d * y + d * d * z) by omega, ck_t (inB_t (by omega) (by decide)), nI_clamp (by omega), (hO.2.2.2 _ hl).1]
theorem dg3 {d q : Nat} (hd : d = 2 ∨ d = 3) (hq : q < 27) : (nI q / nI d = nI (q / d) ∧ nI q - nI q / nI d * nI d = nI (dg d q 0)) ∧ nI (q / d) - nI (q / d) / nI d * nI d = nI (dg d q 1) ∧ nI (q / d) / nI d = nI (q / d / d) ∧ nzB (nI d) = true := by
  have hd0 : 0 < d := by omega
  have h1 : q / d < 2 ^ 31 := Nat.lt_of_le_of_lt (Nat.div_le_self ..) (by omega)
  refine ⟨⟨pk_div (by omega) hd0 (by omega), ?_⟩, ?_, pk_div h1 hd0 (by omega), nzB_t hd0 (by omega)⟩
  · rw [pk_rem (by omega) hd0 (by omega), dg_0]
  · rw [pk_rem h1 hd0 (by omega)]
    simp [dg]
theorem dg2 {d q w : Nat} (hd : d = 2 ∨ d = 3) (hq : q < d ^ 3) : q / d / d = dg d q 2 := by
  unfold dg
  rw [Nat.div_div_eq_div_mul, Nat.pow_succ, Nat.pow_one, Nat.mod_eq_of_lt]
  rw [Nat.div_lt_iff_lt_mul (by rcases hd with rfl | rfl <;> decide), ← Nat.mul_assoc]
  rw [Nat.pow_succ, Nat.pow_succ, Nat.pow_one] at hq
  exact hq
theorem dg_re {d q : Nat} (hd : d = 2 ∨ d = 3) (hq : q < d ^ 3) : dg d q 0 + d * dg d q 1 + d * d * dg d q 2 = q := by
  rw [← dg2 (w := 0) hd hq, dg_0]
  have : dg d q 1 = q / d % d := by simp [dg]
  rw [this]
  rcases hd with rfl | rfl <;> omega
theorem nI_eqs {x y : Nat} (hx : x < 100) (hy : y < 100) : nI x = nI y ↔ x = y := nI_eq (by omega) (by omega)
/-! each identity -/
def pIdem (d w : Nat) (T : Nat → Nat) (x : Nat) : Prop := T (pt d w x x x) = x
def pSym (d w : Nat) (T : Nat → Nat) (q : Nat) : Prop := (2 ≤ w → T q = T (pt d w (dg d q 1) (dg d q 0) (dg d q 2))) ∧ (3 ≤ w → T q = T (pt d w (dg d q 0) (dg d q 2) (dg d q 1)))
def pAss (d : Nat) (T : Nat → Nat) (q : Nat) : Prop := T (pt d 2 (dg d q 0) (T (pt d 2 (dg d q 1) (dg d q 2) 0)) 0) = T (pt d 2 (T (pt d 2 (dg d q 0) (dg d q 1) 0)) (dg d q 2) 0)
def pMaj (d : Nat) (T : Nat → Nat) (x y : Nat) : Prop := T (pt d 3 x x y) = x ∧ T (pt d 3 x y x) = x ∧ T (pt d 3 y x x) = x
def pMal (d : Nat) (T : Nat → Nat) (x y : Nat) : Prop := T (pt d 3 x y y) = x ∧ T (pt d 3 y y x) = x
theorem idX {k d w : Nat} {T : Nat → Nat} {g : xG} {a : xA} (hB : Bas d g a) (hO : Opr d k w T g a) : Ver (f_X5_isIdempotent k g a) (∀ q, q < d → pIdem d w T q) := by
  have hd := hB.1
  refine Ver_iff ⟨fun h q hq => h q (Nat.zero_le _) hq, fun h q _ hq => h q hq⟩ (ver_up (fun n p => f_X5_isIdempotent_2 k g a n (nI p)) (pIdem d w T) d (fun n => ?_) (fun n p hp => ?_) d 0 fu (by omega) (fu_gt (by omega)))
  · show f_X5_isIdempotent_2 k g a (n + 1) (nI d) = _
    rw [e_X5_isIdempotent_2, hB.2.1, if_pos (nI_le (Nat.le_refl _) (by omega))]
    rfl
  · have hl := (hO.2.2.2.2 _ (pt_lt hd hO.2.2.1 hO.2.2.2.1 hp hp hp)).2
    show (_ → f_X5_isIdempotent_2 k g a (n + 1) (nI p) = f_X5_isIdempotent_2 k g a n (nI (p + 1))) ∧ (_ → f_X5_isIdempotent_2 k g a (n + 1) (nI p) = _)
    rw [e_X5_isIdempotent_2, hB.2.1, if_neg (nI_ge hp (by omega)), ansF hB hO hp hp hp, show nI p + 1 = nI (p + 1) from nI_1 p]
    exact ⟨fun h => if_pos (by rw [show T (pt d w p p p) = p from h]), fun h => if_neg (fun e => h ((nI_eqs (by omega) (by omega)).mp e))⟩
theorem idM {op d w : Nat} {T : Nat → Nat} {g : xG} {a : xA} (hd : d = 2 ∨ d = 3) (h0 : g 0 = nI d) (hO : OpM d op w T a) : Ver (f_X12_isIdempotent g a (nI op) (nI w)) (∀ q, q < d → pIdem d w T q) := by
  have h3 := hO.2.2.1
  have h1 := hO.2.1
  refine Ver_iff ⟨fun h q hq => h.2 q (Nat.zero_le _) hq, fun h => ⟨rfl, fun q _ hq => h q hq⟩⟩ (ver_fl (fun n b p => f_X12_isIdempotent_5 g a n (nI op) (nI w) (nI b) (nI p)) (pIdem d w T) d (fun n b hb => ?_) (fun n p hp => ?_) (fun n p hp => ?_) d 0 fu 1 (by omega) (fu_gt (by omega)) (Or.inr rfl))
  · show f_X12_isIdempotent_5 g a (n + 1) (nI op) (nI w) (nI b) (nI d) = _
    rw [e_X12_isIdempotent_5, h0, if_pos (nI_le (Nat.le_refl _) (by omega)), ck_t (boB_b hb)]
  · refine Or.inl ?_
    show f_X12_isIdempotent_5 g a (n + 1) (nI op) (nI w) (nI 0) (nI p) = f_X12_isIdempotent_5 g a n (nI op) (nI w) (nI 0) (nI (p + 1))
    rw [e_X12_isIdempotent_5, h0, if_neg (nI_ge hp (by omega)), if_pos (show nI 0 = 0 from rfl), show nI p + 1 = nI (p + 1) from nI_1 p]
    rfl
  · have hl1 := pt_lt hd h1 h3 hp hp hp
    have hl := (hO.2.2.2 _ hl1).2
    have key : f_X12_isIdempotent_5 g a (n + 1) (nI op) (nI w) (nI 1) (nI p) = if nI (T (pt d w p p p)) = nI p then f_X12_isIdempotent_5 g a n (nI op) (nI w) (nI 1) (nI (p + 1)) else f_X12_isIdempotent_5 g a n (nI op) (nI w) (nI 0) (nI (p + 1)) := by
      rw [e_X12_isIdempotent_5, h0, if_neg (nI_ge hp (by omega)), if_neg (show ¬ nI 1 = 0 by decide)]
      unfold f_X12_isIdempotent_33 f_X12_isIdempotent_44
      have hw : w = 1 ∨ w = 2 ∨ w = 3 := by omega
      unfold pt at hl1 ⊢
      rcases hw with rfl | rfl | rfl
      · rw [if_pos (show nI 1 ≤ 1 by decide), if_pos (show nI 1 ≤ 2 by decide), z0, ansW (y := 0) (z := 0) hd h0 hO (by simpa using hl1), Option.bind_some]
        simp only [z1, nI_add, if_neg (show ¬ 2 ≤ 1 by decide), if_neg (show ¬ 3 ≤ 1 by decide), Nat.mul_zero, Nat.add_zero]
      · rw [if_neg (show ¬ nI 2 ≤ 1 by decide), if_pos (show nI 2 ≤ 2 by decide), z0, ansW (z := 0) hd h0 hO (by simpa using hl1), Option.bind_some]
        simp only [z1, nI_add, if_pos (show 2 ≤ 2 by decide), if_neg (show ¬ 3 ≤ 2 by decide), Nat.mul_zero, Nat.add_zero]
      · rw [if_neg (show ¬ nI 3 ≤ 1 by decide), if_neg (show ¬ nI 3 ≤ 2 by decide), ansW hd h0 hO (by simpa using hl1), Option.bind_some]
        simp only [z0, z1, nI_add, if_pos (show 2 ≤ 3 by decide), if_pos (show 3 ≤ 3 by decide)]
    show (_ → f_X12_isIdempotent_5 g a (n + 1) (nI op) (nI w) (nI 1) (nI p) = f_X12_isIdempotent_5 g a n (nI op) (nI w) (nI 1) (nI (p + 1))) ∧ (_ → f_X12_isIdempotent_5 g a (n + 1) (nI op) (nI w) (nI 1) (nI p) = f_X12_isIdempotent_5 g a n (nI op) (nI w) (nI 0) (nI (p + 1)))
    rw [key]
    exact ⟨fun h => if_pos (by rw [show T (pt d w p p p) = p from h]), fun h => if_neg (fun e => h ((nI_eqs (by omega) (by omega)).mp e))⟩
theorem syX {k d w : Nat} {T : Nat → Nat} {g : xG} {a : xA} (hB : Bas d g a) (hO : Opr d k w T g a) : Ver (f_X5_isSymmetric k g a) (∀ q, q < d ^ w → pSym d w T q) := by
  have hd := hB.1
  have hd0 : 0 < d := by omega
  have h27 := pw3 hd hO.2.2.2.1
  have hw3 := hO.2.2.2.1
  refine Ver_iff ⟨fun h q hq => h q (Nat.zero_le _) hq, fun h q _ hq => h q hq⟩ (ver_up (fun n p => f_X5_isSymmetric_2 k g a n (nI p)) (pSym d w T) (d ^ w) (fun n => ?_) (fun n p hp => ?_) (d ^ w) 0 fu (by omega) (fu_gt (by omega)))
  · show f_X5_isSymmetric_2 k g a (n + 1) (nI (d ^ w)) = _
    rw [e_X5_isSymmetric_2, pts hB hO.2.2.2.1 hO.2.1, if_pos (nI_le (Nat.le_refl _) (by omega))]
    rfl
  · have l0 := dg_lt hd0 p 0
    have l1 := dg_lt hd0 p 1
    have l2 := dg_lt hd0 p 2
    have t1 := (hO.2.2.2.2 _ (pt_lt hd hO.2.2.1 hO.2.2.2.1 l1 l0 l2)).2
    have t2 := (hO.2.2.2.2 _ (pt_lt hd hO.2.2.1 hO.2.2.2.1 l0 l2 l1)).2
    have t3 := (hO.2.2.2.2 _ hp).2
    show (_ → f_X5_isSymmetric_2 k g a (n + 1) (nI p) = f_X5_isSymmetric_2 k g a n (nI (p + 1))) ∧ (_ → f_X5_isSymmetric_2 k g a (n + 1) (nI p) = _)
    rw [e_X5_isSymmetric_2, pts hB hO.2.2.2.1 hO.2.1, if_neg (nI_ge hp (by omega))]
    unfold f_X5_isSymmetric_67
    rw [show t_X4_digit g a (nI p) 0 = nI (dg d p 0) from digit_B (j := 0) hB (by omega) (by decide), show t_X4_digit g a (nI p) 1 = nI (dg d p 1) from digit_B (j := 1) hB (by omega) (by decide), show t_X4_digit g a (nI p) 2 = nI (dg d p 2) from digit_B (j := 2) hB (by omega) (by decide), ansF hB hO l1 l0 l2, ansF hB hO l0 l2 l1, ansA hd hO hp, hO.2.1, show nI p + 1 = nI (p + 1) from nI_1 p]
    by_cases w1 : w ≤ 1
    · rw [if_pos (show nI w ≤ 1 from nI_le (b := 1) w1 (by decide)), if_pos (show nI w ≤ 2 from nI_le (b := 2) (by omega) (by decide))]
      exact ⟨fun _ => rfl, fun h => absurd ⟨fun h2 => by omega, fun h2 => by omega⟩ h⟩
    rw [if_neg (show ¬ nI w ≤ 1 from nI_ge (a := 1) (by omega) (by omega))]
    by_cases c1 : T p = T (pt d w (dg d p 1) (dg d p 0) (dg d p 2))
    · rw [if_pos (by rw [c1])]
      by_cases w2 : w ≤ 2
      · rw [if_pos (show nI w ≤ 2 from nI_le (b := 2) w2 (by decide))]
        exact ⟨fun _ => rfl, fun h => absurd ⟨fun _ => c1, fun h2 => by omega⟩ h⟩
      rw [if_neg (show ¬ nI w ≤ 2 from nI_ge (a := 2) (by omega) (by omega))]
      by_cases c2 : T p = T (pt d w (dg d p 0) (dg d p 2) (dg d p 1))
      · rw [if_pos (by rw [c2])]
        exact ⟨fun _ => rfl, fun h => absurd ⟨fun _ => c1, fun _ => c2⟩ h⟩
      · rw [if_neg (fun e => c2 ((nI_eqs (by omega) (by omega)).mp e).symm)]
        exact ⟨fun h => absurd (h.2 (by omega)) c2, fun _ => rfl⟩
    · rw [if_neg (fun e => c1 ((nI_eqs (by omega) (by omega)).mp e).symm)]
      exact ⟨fun h => absurd (h.1 (by omega)) c1, fun _ => rfl⟩
theorem syM {op d w : Nat} {T : Nat → Nat} {g : xG} {a : xA} (hd : d = 2 ∨ d = 3) (h0 : g 0 = nI d) (hO : OpM d op w T a) : Ver (f_X12_isSymmetric g a (nI op) (nI w)) (∀ q, q < d ^ w → pSym d w T q) := by
  have h3 := hO.2.2.1
  have h1 := hO.2.1
  have h27 := pw3 hd h3
  have hd0 : 0 < d := by omega
  have hp0 := pwp hd w
  by_cases w1 : w = 1
  · subst w1
    refine Or.inl ⟨?_, fun q _ => ⟨fun h2 => by omega, fun h2 => by omega⟩⟩
    unfold f_X12_isSymmetric
    obtain ⟨n, hn⟩ : ∃ n, fu = n + 1 := ⟨999999, rfl⟩
    rw [hn, z0, e_X12_isSymmetric_5, pwM (by omega) h0, Option.bind_some, if_neg (nI_ge hp0 (by omega)), if_pos (show nI 1 ≤ 1 by decide), ck_t (by decide)]
    rfl
  refine Ver_iff ⟨fun h q hq => h.2 q (Nat.zero_le _) hq, fun h => ⟨rfl, fun q _ hq => h q hq⟩⟩ (ver_fl (fun n b p => f_X12_isSymmetric_5 g a n (nI op) (nI w) (nI b) (nI p)) (pSym d w T) (d ^ w) (fun n b hb => ?_) (fun n p hp => ?_) (fun n p hp => ?_) (d ^ w) 0 fu 1 (by omega) (fu_gt (by omega)) (Or.inr rfl))
  · show f_X12_isSymmetric_5 g a (n + 1) (nI op) (nI w) (nI b) (nI (d ^ w)) = _
    rw [e_X12_isSymmetric_5, pwM (by omega) h0, Option.bind_some, if_pos (nI_le (Nat.le_refl _) (by omega)), ck_t (boB_b hb)]
  all_goals
    have hq3 : p < d ^ 3 := Nat.lt_of_lt_of_le hp (Nat.pow_le_pow_right hd0 h3)
    obtain ⟨⟨e1, e2⟩, e3, e4, e5⟩ := dg3 (q := p) hd (by omega)
    have l0 := dg_lt hd0 p 0
    have l1 := dg_lt hd0 p 1
    have l2 := dg_lt hd0 p 2
    have t3 := (hO.2.2.2 _ hp).2
    have er := dg_re hd hq3
    have p2 : w = 2 → dg d p 2 = 0 := fun h => dg_big hd0 (by rw [← h]; exact hp)
    have u1 : f_X12_answer g a (nI op) (nI (dg d p 0)) (nI (dg d p 1)) (nI (dg d p 2)) = some (nI (T p)) := by
      rw [ansW hd h0 hO (by rw [er]; exact hp), er]
    have el : ∀ x y z, (w = 2 → z = 0) → x + d * y + d * d * z = pt d w x y z := fun x y z hz => by
      unfold pt
      rw [if_pos (by omega)]
      by_cases h : w = 2
      · rw [hz h, if_neg (by omega), Nat.mul_zero]
      · rw [if_pos (by omega)]
    have g1 := pt_lt hd h1 h3 l1 l0 l2
    have g2 := pt_lt hd h1 h3 l0 l2 l1
    have t1 := (hO.2.2.2 _ g1).2
    have t2 := (hO.2.2.2 _ g2).2
    have u2 : f_X12_answer g a (nI op) (nI (dg d p 1)) (nI (dg d p 0)) (nI (dg d p 2)) = some (nI (T (pt d w (dg d p 1) (dg d p 0) (dg d p 2)))) := by
      rw [ansW hd h0 hO (by rw [el _ _ _ p2]; exact g1), el _ _ _ p2]
    have u3 : ¬ w < 3 → f_X12_answer g a (nI op) (nI (dg d p 0)) (nI (dg d p 2)) (nI (dg d p 1)) = some (nI (T (pt d w (dg d p 0) (dg d p 2) (dg d p 1)))) := fun hw => by
      rw [ansW hd h0 hO (by rw [el _ _ _ (fun h => by omega)]; exact g2), el _ _ _ (fun h => by omega)]
  · refine Or.inl ?_
    show f_X12_isSymmetric_5 g a (n + 1) (nI op) (nI w) (nI 0) (nI p) = f_X12_isSymmetric_5 g a n (nI op) (nI w) (nI 0) (nI (p + 1))
    rw [e_X12_isSymmetric_5, pwM (by omega) h0, Option.bind_some, if_neg (nI_ge hp (by omega)), if_neg (show ¬ nI w ≤ 1 from nI_ge (a := 1) (by omega) (by omega)), h0, ck_t e5, ck_t e5, ck_t e5, ck_t e5, ck_t e5, e2, e1, e3, e4, dg2 (w := 0) hd hq3, u1, Option.bind_some, if_pos (show nI 0 = 0 from rfl), show nI p + 1 = nI (p + 1) from nI_1 p]
    rfl
  · have key : f_X12_isSymmetric_5 g a (n + 1) (nI op) (nI w) (nI 1) (nI p) = (if nI (T p) = nI (T (pt d w (dg d p 1) (dg d p 0) (dg d p 2))) then (if nI w < 3 then f_X12_isSymmetric_5 g a n (nI op) (nI w) (nI 1) (nI (p + 1)) else Option.bind (f_X12_answer g a (nI op) (nI (dg d p 0)) (nI (dg d p 2)) (nI (dg d p 1))) (fun u19 => (if nI (T p) = u19 then f_X12_isSymmetric_5 g a n (nI op) (nI w) (nI 1) (nI (p + 1)) else f_X12_isSymmetric_5 g a n (nI op) (nI w) (nI 0) (nI (p + 1))))) else f_X12_isSymmetric_5 g a n (nI op) (nI w) (nI 0) (nI (p + 1))) := by
      rw [e_X12_isSymmetric_5, pwM (by omega) h0, Option.bind_some, if_neg (nI_ge hp (by omega)), if_neg (show ¬ nI w ≤ 1 from nI_ge (a := 1) (by omega) (by omega)), h0, ck_t e5, ck_t e5, ck_t e5, ck_t e5, ck_t e5, e2, e1, e3, e4, dg2 (w := 0) hd hq3, u1, Option.bind_some, if_neg (show ¬ nI 1 = 0 by decide), u2, Option.bind_some, show nI p + 1 = nI (p + 1) from nI_1 p]
      rfl
    show (_ → f_X12_isSymmetric_5 g a (n + 1) (nI op) (nI w) (nI 1) (nI p) = f_X12_isSymmetric_5 g a n (nI op) (nI w) (nI 1) (nI (p + 1))) ∧ (_ → f_X12_isSymmetric_5 g a (n + 1) (nI op) (nI w) (nI 1) (nI p) = f_X12_isSymmetric_5 g a n (nI op) (nI w) (nI 0) (nI (p + 1)))
    rw [key]
    by_cases c1 : T p = T (pt d w (dg d p 1) (dg d p 0) (dg d p 2))
    · rw [if_pos (by rw [← c1])]
      by_cases w2 : w < 3
      · rw [if_pos (show nI w < 3 from nI_lt (b := 3) w2 (by decide))]
        exact ⟨fun _ => rfl, fun h => absurd ⟨fun _ => c1, fun h2 => by omega⟩ h⟩
      rw [if_neg (show ¬ nI w < 3 from nI_nlt (b := 3) (by omega) (by omega)), u3 w2, Option.bind_some]
      by_cases c2 : T p = T (pt d w (dg d p 0) (dg d p 2) (dg d p 1))
      · rw [if_pos (by rw [← c2])]
        exact ⟨fun _ => rfl, fun h => absurd ⟨fun _ => c1, fun _ => c2⟩ h⟩
      · rw [if_neg (fun e => c2 ((nI_eqs (by omega) (by omega)).mp e))]
        exact ⟨fun h => absurd (h.2 (by omega)) c2, fun _ => rfl⟩
    · rw [if_neg (fun e => c1 ((nI_eqs (by omega) (by omega)).mp e))]
      exact ⟨fun h => absurd (h.1 (by omega)) c1, fun _ => rfl⟩
