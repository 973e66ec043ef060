theorem asX {k d : Nat} {T : Nat → Nat} {g : xG} {a : xA} (hB : Bas d g a) (hO : Opr d k 2 T g a) : Ver (f_X5_isAssociative k g a) (∀ q, q < d ^ 3 → pAss d T q) := by
  have hd := hB.1
  have hd0 : 0 < d := by omega
  have h27 := pw3 hd (w := 3) (by decide)
  unfold f_X5_isAssociative
  rw [hO.2.1, if_pos (show nI 2 = 2 from rfl)]
  refine Ver_iff ⟨fun h q hq => h q (Nat.zero_le _) hq, fun h q _ hq => h q hq⟩ (ver_up (fun n p => f_X5_isAssociative_12 k g a n (nI p)) (pAss d T) (d ^ 3) (fun n => ?_) (fun n p hp => ?_) (d ^ 3) 0 fu (by omega) (fu_gt (by omega)))
  · show f_X5_isAssociative_12 k g a (n + 1) (nI (d ^ 3)) = _
    rw [e_X5_isAssociative_12, show t_X4_power g a 3 = nI (d ^ 3) from power_B (n := 3) hB (by decide), if_pos (nI_le (Nat.le_refl _) (by omega))]
    rfl
  · have l0 := dg_lt hd0 p 0
    have l1 := dg_lt hd0 p 1
    have l2 := dg_lt hd0 p 2
    have t1 := (hO.2.2.2.2 _ (pt_lt hd hO.2.2.1 hO.2.2.2.1 l1 l2 hd0)).2
    have t2 := (hO.2.2.2.2 _ (pt_lt hd hO.2.2.1 hO.2.2.2.1 l0 l1 hd0)).2
    have t3 := (hO.2.2.2.2 _ (pt_lt hd hO.2.2.1 hO.2.2.2.1 l0 t1 hd0)).2
    have t4 := (hO.2.2.2.2 _ (pt_lt hd hO.2.2.1 hO.2.2.2.1 t2 l2 hd0)).2
    show (_ → f_X5_isAssociative_12 k g a (n + 1) (nI p) = f_X5_isAssociative_12 k g a n (nI (p + 1))) ∧ (_ → f_X5_isAssociative_12 k g a (n + 1) (nI p) = _)
    rw [e_X5_isAssociative_12, show t_X4_power g a 3 = nI (d ^ 3) from power_B (n := 3) hB (by decide), if_neg (nI_ge hp (by omega))]
    rw [show t_X4_digit g a (nI p) 0 = nI (dg d p 0) from digit_B (j := 0) hB (by omega) (by decide), show t_X4_digit g a (nI p) 1 = nI (dg d p 1) from digit_B (j := 1) hB (by omega) (by decide), show t_X4_digit g a (nI p) 2 = nI (dg d p 2) from digit_B (j := 2) hB (by omega) (by decide), show nI p + 1 = nI (p + 1) from nI_1 p, z0, ansF hB hO l1 l2 hd0, ansF hB hO l0 l1 hd0, ansF hB hO l0 t1 hd0, ansF hB hO t2 l2 hd0]
    exact ⟨fun h => if_pos (by rw [show T _ = T _ from h]), fun h => if_neg (fun e => h ((nI_eqs (by omega) (by omega)).mp e))⟩
theorem asM {op d : Nat} {T : Nat → Nat} {g : xG} {a : xA} (hd : d = 2 ∨ d = 3) (h0 : g 0 = nI d) (hO : OpM d op 2 T a) : Ver (f_X12_associates g a (nI op)) (∀ q, q < d ^ 3 → pAss d T q) := by
  have hd0 : 0 < d := by omega
  have h27 := pw3 hd (w := 3) (by decide)
  have ed3 : nI d * nI d * nI d = nI (d ^ 3) := by rw [pk_mul, pk_mul, Nat.pow_succ, Nat.pow_succ, Nat.pow_one]
  refine Ver_iff ⟨fun h q hq => h.2 q (Nat.zero_le _) hq, fun h => ⟨rfl, fun q _ hq => h q hq⟩⟩ (ver_fl (fun n b p => f_X12_associates_4 g a n (nI op) (nI b) (nI p)) (pAss d T) (d ^ 3) (fun n b hb => ?_) (fun n p hp => ?_) (fun n p hp => ?_) (d ^ 3) 0 fu 1 (by omega) (fu_gt (by omega)) (Or.inr rfl))
  · show f_X12_associates_4 g a (n + 1) (nI op) (nI b) (nI (d ^ 3)) = _
    rw [e_X12_associates_4, h0, ed3, if_pos (nI_le (Nat.le_refl _) (by omega)), ck_t (boB_b hb)]
  all_goals
    obtain ⟨⟨e1, e2⟩, e3, e4, e5⟩ := dg3 (q := p) hd (by omega)
    have l0 := dg_lt hd0 p 0
    have l1 := dg_lt hd0 p 1
    have l2 := dg_lt hd0 p 2
    have el : ∀ x y, x + d * y + d * d * 0 = pt d 2 x y 0 := fun x y => by
      unfold pt
      rw [if_pos (by decide), if_neg (by decide), Nat.mul_zero]
    have an2 : ∀ x y, x < d → y < d → f_X12_answer g a (nI op) (nI x) (nI y) 0 = some (nI (T (pt d 2 x y 0))) ∧ T (pt d 2 x y 0) < d := fun x y hx hy => by
      have hl := pt_lt hd hO.2.1 hO.2.2.1 hx hy hd0
      refine ⟨?_, (hO.2.2.2 _ hl).2⟩
      rw [← el] at hl ⊢
      exact ansW (z := 0) hd h0 hO hl
    have a1 := an2 _ _ l1 l2
    have a2 := an2 _ _ l0 a1.2
    have a3 := an2 _ _ l0 l1
    have a4 := an2 _ _ a3.2 l2
  · refine Or.inl ?_
    show f_X12_associates_4 g a (n + 1) (nI op) (nI 0) (nI p) = f_X12_associates_4 g a n (nI op) (nI 0) (nI (p + 1))
    rw [e_X12_associates_4, h0, ed3, if_neg (nI_ge hp (by omega)), ck_t e5, ck_t e5, ck_t e5, ck_t e5, ck_t e5, if_pos (show nI 0 = 0 from rfl), show nI p + 1 = nI (p + 1) from nI_1 p]
    rfl
  · have key : f_X12_associates_4 g a (n + 1) (nI op) (nI 1) (nI p) = (if nI (T (pt d 2 (dg d p 0) (T (pt d 2 (dg d p 1) (dg d p 2) 0)) 0)) = nI (T (pt d 2 (T (pt d 2 (dg d p 0) (dg d p 1) 0)) (dg d p 2) 0)) then f_X12_associates_4 g a n (nI op) (nI 1) (nI (p + 1)) else f_X12_associates_4 g a n (nI op) (nI 0) (nI (p + 1))) := by
      rw [e_X12_associates_4, h0, ed3, if_neg (nI_ge hp (by omega)), ck_t e5, ck_t e5, ck_t e5, ck_t e5, ck_t e5, if_neg (show ¬ nI 1 = 0 by decide), show nI p + 1 = nI (p + 1) from nI_1 p, e2, e1, e3, e4, dg2 (w := 0) hd hp, a1.1, Option.bind_some, a2.1, Option.bind_some, a3.1, Option.bind_some, a4.1, Option.bind_some]
      rfl
    show (_ → f_X12_associates_4 g a (n + 1) (nI op) (nI 1) (nI p) = f_X12_associates_4 g a n (nI op) (nI 1) (nI (p + 1))) ∧ (_ → f_X12_associates_4 g a (n + 1) (nI op) (nI 1) (nI p) = f_X12_associates_4 g a n (nI op) (nI 0) (nI (p + 1)))
    rw [key]
    have b2 := a2.2
    have b4 := a4.2
    exact ⟨fun h => if_pos (by rw [show T _ = T _ from h]), fun h => if_neg (fun e => h ((nI_eqs (by omega) (by omega)).mp e))⟩
theorem two_dg {d : Nat} (hd : 0 < d) {P : Nat → Nat → Prop} : (∀ q, q < d ^ 2 → P (dg d q 0) (dg d q 1)) ↔ ∀ x, x < d → ∀ y, y < d → P x y := by
  constructor
  · intro h x hx y hy
    have hl : nm d (fun i => if i = 0 then x else y) 2 < d ^ 2 := nm_lt 2 (fun k _ => by
      show (if k = 0 then x else y) < d
      split <;> omega)
    have e := h _ hl
    rw [nm_dg hd 2 (fun k _ => by
      show (if k = 0 then x else y) < d
      split <;> omega) 0 (by decide), nm_dg hd 2 (fun k _ => by
      show (if k = 0 then x else y) < d
      split <;> omega) 1 (by decide)] at e
    exact e
  · intro h q _
    exact h _ (dg_lt hd _ _) _ (dg_lt hd _ _)
theorem maX {k d : Nat} {T : Nat → Nat} {g : xG} {a : xA} (hB : Bas d g a) (hO : Opr d k 3 T g a) : Ver (f_X5_isMajority k g a) (∀ x, x < d → ∀ y, y < d → pMaj d T x y) := by
  have hd := hB.1
  have hd0 : 0 < d := by omega
  have h27 := pw3 hd (w := 2) (by decide)
  unfold f_X5_isMajority
  rw [hO.2.1, if_pos (show nI 3 = 3 from rfl)]
  refine Ver_iff ⟨fun h => (two_dg hd0).mp (fun q hq => h q (Nat.zero_le _) hq), fun h q _ hq => (two_dg hd0).mpr h q hq⟩ (ver_up (fun n p => f_X5_isMajority_12 k g a n (nI p)) (fun p => pMaj d T (dg d p 0) (dg d p 1)) (d ^ 2) (fun n => ?_) (fun n p hp => ?_) (d ^ 2) 0 fu (by omega) (fu_gt (by omega)))
  · show f_X5_isMajority_12 k g a (n + 1) (nI (d ^ 2)) = _
    rw [e_X5_isMajority_12, show t_X4_power g a 2 = nI (d ^ 2) from power_B (n := 2) hB (by decide), if_pos (nI_le (Nat.le_refl _) (by omega))]
    rfl
  · have l0 := dg_lt hd0 p 0
    have l1 := dg_lt hd0 p 1
    have t1 := (hO.2.2.2.2 _ (pt_lt hd hO.2.2.1 hO.2.2.2.1 l0 l0 l1)).2
    have t2 := (hO.2.2.2.2 _ (pt_lt hd hO.2.2.1 hO.2.2.2.1 l0 l1 l0)).2
    have t3 := (hO.2.2.2.2 _ (pt_lt hd hO.2.2.1 hO.2.2.2.1 l1 l0 l0)).2
    show (_ → f_X5_isMajority_12 k g a (n + 1) (nI p) = f_X5_isMajority_12 k g a n (nI (p + 1))) ∧ (_ → f_X5_isMajority_12 k g a (n + 1) (nI p) = _)
    rw [e_X5_isMajority_12, show t_X4_power g a 2 = nI (d ^ 2) from power_B (n := 2) hB (by decide), if_neg (nI_ge hp (by omega))]
    rw [show t_X4_digit g a (nI p) 0 = nI (dg d p 0) from digit_B (j := 0) hB (by omega) (by decide), show t_X4_digit g a (nI p) 1 = nI (dg d p 1) from digit_B (j := 1) hB (by omega) (by decide), show nI p + 1 = nI (p + 1) from nI_1 p, ansF hB hO l0 l0 l1, ansF hB hO l0 l1 l0, ansF hB hO l1 l0 l0]
    by_cases c1 : T (pt d 3 (dg d p 0) (dg d p 0) (dg d p 1)) = dg d p 0
    · rw [if_pos (by rw [c1])]
      by_cases c2 : T (pt d 3 (dg d p 0) (dg d p 1) (dg d p 0)) = dg d p 0
      · rw [if_pos (by rw [c2])]
        by_cases c3 : T (pt d 3 (dg d p 1) (dg d p 0) (dg d p 0)) = dg d p 0
        · rw [if_pos (by rw [c3])]
          exact ⟨fun _ => rfl, fun h => absurd ⟨c1, c2, c3⟩ h⟩
        · rw [if_neg (fun e => c3 ((nI_eqs (by omega) (by omega)).mp e))]
          exact ⟨fun h => absurd h.2.2 c3, fun _ => rfl⟩
      · rw [if_neg (fun e => c2 ((nI_eqs (by omega) (by omega)).mp e))]
        exact ⟨fun h => absurd h.2.1 c2, fun _ => rfl⟩
    · rw [if_neg (fun e => c1 ((nI_eqs (by omega) (by omega)).mp e))]
      exact ⟨fun h => absurd h.1 c1, fun _ => rfl⟩
theorem mlX {k d : Nat} {T : Nat → Nat} {g : xG} {a : xA} (hB : Bas d g a) (hO : Opr d k 3 T g a) : Ver (f_X5_isMaltsev k g a) (∀ x, x < d → ∀ y, y < d → pMal d T x y) := by
  have hd := hB.1
  have hd0 : 0 < d := by omega
  have h27 := pw3 hd (w := 2) (by decide)
  unfold f_X5_isMaltsev
  rw [hO.2.1, if_pos (show nI 3 = 3 from rfl)]
  refine Ver_iff ⟨fun h => (two_dg hd0).mp (fun q hq => h q (Nat.zero_le _) hq), fun h q _ hq => (two_dg hd0).mpr h q hq⟩ (ver_up (fun n p => f_X5_isMaltsev_12 k g a n (nI p)) (fun p => pMal d T (dg d p 0) (dg d p 1)) (d ^ 2) (fun n => ?_) (fun n p hp => ?_) (d ^ 2) 0 fu (by omega) (fu_gt (by omega)))
  · show f_X5_isMaltsev_12 k g a (n + 1) (nI (d ^ 2)) = _
    rw [e_X5_isMaltsev_12, show t_X4_power g a 2 = nI (d ^ 2) from power_B (n := 2) hB (by decide), if_pos (nI_le (Nat.le_refl _) (by omega))]
    rfl
  · have l0 := dg_lt hd0 p 0
    have l1 := dg_lt hd0 p 1
    have t1 := (hO.2.2.2.2 _ (pt_lt hd hO.2.2.1 hO.2.2.2.1 l0 l1 l1)).2
    have t3 := (hO.2.2.2.2 _ (pt_lt hd hO.2.2.1 hO.2.2.2.1 l1 l1 l0)).2
    show (_ → f_X5_isMaltsev_12 k g a (n + 1) (nI p) = f_X5_isMaltsev_12 k g a n (nI (p + 1))) ∧ (_ → f_X5_isMaltsev_12 k g a (n + 1) (nI p) = _)
    rw [e_X5_isMaltsev_12, show t_X4_power g a 2 = nI (d ^ 2) from power_B (n := 2) hB (by decide), if_neg (nI_ge hp (by omega))]
    rw [show t_X4_digit g a (nI p) 0 = nI (dg d p 0) from digit_B (j := 0) hB (by omega) (by decide), show t_X4_digit g a (nI p) 1 = nI (dg d p 1) from digit_B (j := 1) hB (by omega) (by decide), show nI p + 1 = nI (p + 1) from nI_1 p, ansF hB hO l0 l1 l1, ansF hB hO l1 l1 l0]
    by_cases c1 : T (pt d 3 (dg d p 0) (dg d p 1) (dg d p 1)) = dg d p 0
    · rw [if_pos (by rw [c1])]
      by_cases c3 : T (pt d 3 (dg d p 1) (dg d p 1) (dg d p 0)) = dg d p 0
      · rw [if_pos (by rw [c3])]
        exact ⟨fun _ => rfl, fun h => absurd ⟨c1, c3⟩ h⟩
      · rw [if_neg (fun e => c3 ((nI_eqs (by omega) (by omega)).mp e))]
        exact ⟨fun h => absurd h.2 c3, fun _ => rfl⟩
    · rw [if_neg (fun e => c1 ((nI_eqs (by omega) (by omega)).mp e))]
      exact ⟨fun h => absurd h.1 c1, fun _ => rfl⟩
theorem an3 {op d x y z : Nat} {T : Nat → Nat} {g : xG} {a : xA} (hd : d = 2 ∨ d = 3) (h0 : g 0 = nI d) (hO : OpM d op 3 T a) (hx : x < d) (hy : y < d) (hz : z < d) : f_X12_answer g a (nI op) (nI x) (nI y) (nI z) = some (nI (T (pt d 3 x y z))) ∧ T (pt d 3 x y z) < d := by
  have hl := pt_lt hd hO.2.1 hO.2.2.1 hx hy hz
  refine ⟨?_, (hO.2.2.2 _ hl).2⟩
  have el : x + d * y + d * d * z = pt d 3 x y z := by
    unfold pt
    rw [if_pos (by decide), if_pos (by decide)]
  rw [← el] at hl ⊢
  exact ansW hd h0 hO hl
theorem maM {op d : Nat} {T : Nat → Nat} {g : xG} {a : xA} (hd : d = 2 ∨ d = 3) (h0 : g 0 = nI d) (hO : OpM d op 3 T a) : Ver (f_X12_isMajority g a (nI op)) (∀ x, x < d → ∀ y, y < d → pMaj d T x y) := by
  have inn : ∀ n b x, (b = 0 ∨ b = 1) → x < d → ∃ b', f_X12_isMajority_15 g a (f_X12_isMajority_4 g a n) fu (nI op) (nI b) (nI x) 0 = f_X12_isMajority_4 g a n (nI op) (nI b') (nI (x + 1)) ∧ (b' = 0 ∨ b' = 1) ∧ (b' = 1 ↔ b = 1 ∧ ∀ q, 0 ≤ q → q < d → pMaj d T x q) := fun n b x hb hx => by
    refine ver_in (fun m b p => f_X12_isMajority_15 g a (f_X12_isMajority_4 g a n) m (nI op) (nI b) (nI x) (nI p)) (fun b' => f_X12_isMajority_4 g a n (nI op) (nI b') (nI (x + 1))) (pMaj d T x) d (fun m b hb => ?_) (fun m p hp => ?_) (fun m p hp => ?_) d 0 fu b (by omega) (fu_gt (by omega)) hb
    · show f_X12_isMajority_15 g a (f_X12_isMajority_4 g a n) (m + 1) (nI op) (nI b) (nI x) (nI d) = _
      rw [e_X12_isMajority_15, h0, if_pos (nI_le (Nat.le_refl _) (by omega)), show nI x + 1 = nI (x + 1) from nI_1 x]
    · refine Or.inl ?_
      show f_X12_isMajority_15 g a (f_X12_isMajority_4 g a n) (m + 1) (nI op) (nI 0) (nI x) (nI p) = f_X12_isMajority_15 g a (f_X12_isMajority_4 g a n) m (nI op) (nI 0) (nI x) (nI (p + 1))
      rw [e_X12_isMajority_15, h0, if_neg (nI_ge hp (by omega)), if_pos (show nI 0 = 0 from rfl), show nI p + 1 = nI (p + 1) from nI_1 p]
      rfl
    · obtain ⟨a1, b1⟩ := an3 hd h0 hO hx hx hp
      obtain ⟨a2, b2⟩ := an3 hd h0 hO hx hp hx
      obtain ⟨a3, b3⟩ := an3 hd h0 hO hp hx hx
      show (_ → f_X12_isMajority_15 g a (f_X12_isMajority_4 g a n) (m + 1) (nI op) (nI 1) (nI x) (nI p) = f_X12_isMajority_15 g a (f_X12_isMajority_4 g a n) m (nI op) (nI 1) (nI x) (nI (p + 1))) ∧ (_ → f_X12_isMajority_15 g a (f_X12_isMajority_4 g a n) (m + 1) (nI op) (nI 1) (nI x) (nI p) = f_X12_isMajority_15 g a (f_X12_isMajority_4 g a n) m (nI op) (nI 0) (nI x) (nI (p + 1)))
      rw [e_X12_isMajority_15, h0, if_neg (nI_ge hp (by omega)), if_neg (show ¬ nI 1 = 0 by decide), show nI p + 1 = nI (p + 1) from nI_1 p, a1, Option.bind_some, a2, Option.bind_some, a3, Option.bind_some]
      by_cases c1 : T (pt d 3 x x p) = x
      · rw [if_pos (by rw [c1])]
        by_cases c2 : T (pt d 3 x p x) = x
        · rw [if_pos (by rw [c2])]
          by_cases c3 : T (pt d 3 p x x) = x
          · rw [if_pos (by rw [c3])]
            exact ⟨fun _ => rfl, fun h => absurd ⟨c1, c2, c3⟩ h⟩
          · rw [if_neg (fun e => c3 ((nI_eqs (by omega) (by omega)).mp e))]
            exact ⟨fun h => absurd h.2.2 c3, fun _ => rfl⟩
        · rw [if_neg (fun e => c2 ((nI_eqs (by omega) (by omega)).mp e))]
          exact ⟨fun h => absurd h.2.1 c2, fun _ => rfl⟩
      · rw [if_neg (fun e => c1 ((nI_eqs (by omega) (by omega)).mp e))]
        exact ⟨fun h => absurd h.1 c1, fun _ => rfl⟩
  refine Ver_iff ⟨fun h x hx y hy => h.2 x (Nat.zero_le _) hx y (Nat.zero_le _) hy, fun h => ⟨rfl, fun x _ hx y _ hy => h x hx y hy⟩⟩ (ver_fl (fun n b p => f_X12_isMajority_4 g a n (nI op) (nI b) (nI p)) (fun x => ∀ q, 0 ≤ q → q < d → pMaj d T x q) d (fun n b hb => ?_) (fun n p hp => ?_) (fun n p hp => ?_) d 0 fu 1 (by omega) (fu_gt (by omega)) (Or.inr rfl))
  · show f_X12_isMajority_4 g a (n + 1) (nI op) (nI b) (nI d) = _
    rw [e_X12_isMajority_4, h0, if_pos (nI_le (Nat.le_refl _) (by omega)), ck_t (boB_b hb)]
  · refine Or.inl ?_
    show f_X12_isMajority_4 g a (n + 1) (nI op) (nI 0) (nI p) = f_X12_isMajority_4 g a n (nI op) (nI 0) (nI (p + 1))
    obtain ⟨b', q1, q2, q3⟩ := inn n 0 p (Or.inl rfl) hp
    have hb0 : b' = 0 := by
      rcases q2 with h | h
      · exact h
      · exact absurd (q3.mp h).1 (by decide)
    rw [e_X12_isMajority_4, h0, if_neg (nI_ge hp (by omega)), q1, hb0]
  · show (_ → f_X12_isMajority_4 g a (n + 1) (nI op) (nI 1) (nI p) = f_X12_isMajority_4 g a n (nI op) (nI 1) (nI (p + 1))) ∧ (_ → f_X12_isMajority_4 g a (n + 1) (nI op) (nI 1) (nI p) = f_X12_isMajority_4 g a n (nI op) (nI 0) (nI (p + 1)))
    obtain ⟨b', q1, q2, q3⟩ := inn n 1 p (Or.inr rfl) hp
    rw [e_X12_isMajority_4, h0, if_neg (nI_ge hp (by omega)), q1]
    refine ⟨fun h => by rw [q3.mpr ⟨rfl, h⟩], fun h => ?_⟩
    rcases q2 with h2 | h2
    · rw [h2]
    · exact absurd (q3.mp h2).2 h
theorem mlM {op d : Nat} {T : Nat → Nat} {g : xG} {a : xA} (hd : d = 2 ∨ d = 3) (h0 : g 0 = nI d) (hO : OpM d op 3 T a) : Ver (f_X12_isMaltsev g a (nI op)) (∀ x, x < d → ∀ y, y < d → pMal d T x y) := by
  have inn : ∀ n b x, (b = 0 ∨ b = 1) → x < d → ∃ b', f_X12_isMaltsev_15 g a (f_X12_isMaltsev_4 g a n) fu (nI op) (nI b) (nI x) 0 = f_X12_isMaltsev_4 g a n (nI op) (nI b') (nI (x + 1)) ∧ (b' = 0 ∨ b' = 1) ∧ (b' = 1 ↔ b = 1 ∧ ∀ q, 0 ≤ q → q < d → pMal d T x q) := fun n b x hb hx => by
    refine ver_in (fun m b p => f_X12_isMaltsev_15 g a (f_X12_isMaltsev_4 g a n) m (nI op) (nI b) (nI x) (nI p)) (fun b' => f_X12_isMaltsev_4 g a n (nI op) (nI b') (nI (x + 1))) (pMal d T x) d (fun m b hb => ?_) (fun m p hp => ?_) (fun m p hp => ?_) d 0 fu b (by omega) (fu_gt (by omega)) hb
    · show f_X12_isMaltsev_15 g a (f_X12_isMaltsev_4 g a n) (m + 1) (nI op) (nI b) (nI x) (nI d) = _
      rw [e_X12_isMaltsev_15, h0, if_pos (nI_le (Nat.le_refl _) (by omega)), show nI x + 1 = nI (x + 1) from nI_1 x]
    · refine Or.inl ?_
      show f_X12_isMaltsev_15 g a (f_X12_isMaltsev_4 g a n) (m + 1) (nI op) (nI 0) (nI x) (nI p) = f_X12_isMaltsev_15 g a (f_X12_isMaltsev_4 g a n) m (nI op) (nI 0) (nI x) (nI (p + 1))
      rw [e_X12_isMaltsev_15, h0, if_neg (nI_ge hp (by omega)), if_pos (show nI 0 = 0 from rfl), show nI p + 1 = nI (p + 1) from nI_1 p]
      rfl
    · obtain ⟨a1, b1⟩ := an3 hd h0 hO hx hp hp
      obtain ⟨a3, b3⟩ := an3 hd h0 hO hp hp hx
      show (_ → f_X12_isMaltsev_15 g a (f_X12_isMaltsev_4 g a n) (m + 1) (nI op) (nI 1) (nI x) (nI p) = f_X12_isMaltsev_15 g a (f_X12_isMaltsev_4 g a n) m (nI op) (nI 1) (nI x) (nI (p + 1))) ∧ (_ → f_X12_isMaltsev_15 g a (f_X12_isMaltsev_4 g a n) (m + 1) (nI op) (nI 1) (nI x) (nI p) = f_X12_isMaltsev_15 g a (f_X12_isMaltsev_4 g a n) m (nI op) (nI 0) (nI x) (nI (p + 1)))
      rw [e_X12_isMaltsev_15, h0, if_neg (nI_ge hp (by omega)), if_neg (show ¬ nI 1 = 0 by decide), show nI p + 1 = nI (p + 1) from nI_1 p, a1, Option.bind_some, a3, Option.bind_some]
      by_cases c1 : T (pt d 3 x p p) = x
      · rw [if_pos (by rw [c1])]
        by_cases c3 : T (pt d 3 p p x) = x
        · rw [if_pos (by rw [c3])]
          exact ⟨fun _ => rfl, fun h => absurd ⟨c1, c3⟩ h⟩
        · rw [if_neg (fun e => c3 ((nI_eqs (by omega) (by omega)).mp e))]
          exact ⟨fun h => absurd h.2 c3, fun _ => rfl⟩
      · rw [if_neg (fun e => c1 ((nI_eqs (by omega) (by omega)).mp e))]
        exact ⟨fun h => absurd h.1 c1, fun _ => rfl⟩
  refine Ver_iff ⟨fun h x hx y hy => h.2 x (Nat.zero_le _) hx y (Nat.zero_le _) hy, fun h => ⟨rfl, fun x _ hx y _ hy => h x hx y hy⟩⟩ (ver_fl (fun n b p => f_X12_isMaltsev_4 g a n (nI op) (nI b) (nI p)) (fun x => ∀ q, 0 ≤ q → q < d → pMal d T x q) d (fun n b hb => ?_) (fun n p hp => ?_) (fun n p hp => ?_) d 0 fu 1 (by omega) (fu_gt (by omega)) (Or.inr rfl))
  · show f_X12_isMaltsev_4 g a (n + 1) (nI op) (nI b) (nI d) = _
    rw [e_X12_isMaltsev_4, h0, if_pos (nI_le (Nat.le_refl _) (by omega)), ck_t (boB_b hb)]
  · refine Or.inl ?_
    show f_X12_isMaltsev_4 g a (n + 1) (nI op) (nI 0) (nI p) = f_X12_isMaltsev_4 g a n (nI op) (nI 0) (nI (p + 1))
    obtain ⟨b', q1, q2, q3⟩ := inn n 0 p (Or.inl rfl) hp
    have hb0 : b' = 0 := by
      rcases q2 with h | h
      · exact h
      · exact absurd (q3.mp h).1 (by decide)
    rw [e_X12_isMaltsev_4, h0, if_neg (nI_ge hp (by omega)), q1, hb0]
  · show (_ → f_X12_isMaltsev_4 g a (n + 1) (nI op) (nI 1) (nI p) = f_X12_isMaltsev_4 g a n (nI op) (nI 1) (nI (p + 1))) ∧ (_ → f_X12_isMaltsev_4 g a (n + 1) (nI op) (nI 1) (nI p) = f_X12_isMaltsev_4 g a n (nI op) (nI 0) (nI (p + 1)))
    obtain ⟨b', q1, q2, q3⟩ := inn n 1 p (Or.inr rfl) hp
    rw [e_X12_isMaltsev_4, h0, if_neg (nI_ge hp (by omega)), q1]
    refine ⟨fun h => by rw [q3.mpr ⟨rfl, h⟩], fun h => ?_⟩
    rcases q2 with h2 | h2
    · rw [h2]
    · exact absurd (q3.mp h2).2 h
theorem ob1_has : ob_has Cpl := by
  intro g a gm am v1 v2 h
  have hC := h
  have h8 : ∀ v, Cpl g a (upd gm 8 v) am := fun v => Cpl_8 h
  obtain ⟨d, R, K, T, V, C, pl, tu, ar, ch, cr, an, cv, hB, h0, hR, hK, hT, hI⟩ := h
  have hd := hB.1
  have hK6 := hK.1
  have hbad : ∀ (x1 : Int32) (s : Nat), s ≠ 0 → s < 4 → f_X12_has_27 am gm x1 v2 (nI s) = some (0, upd gm 8 (nI s)) := fun x1 s hs h4 => by
    unfold f_X12_has_27
    rw [if_neg (by rw [upd_s]; exact nI_nle (by omega) (by omega))]
  rcases ix3 v1 (R := K) (by omega) with ⟨q1, q2⟩ | ⟨k, hk, rfl⟩
  · refine Or.inr (Or.inl ⟨3, (0, upd gm 8 (nI 1)), ?_, rfl, ?_, thr_8, h8 _⟩)
    · unfold f_X11_has
      rw [hK.2.1, getF_0 q1, om_n]
    · unfold f_X12_has
      rw [isOp_0 hK.2.2.1 q2, Option.bind_some, if_pos rfl]
      exact hbad _ 1 (by decide) (by decide)
  obtain ⟨o1, o2, o3⟩ := hK.2.2.2 k hk
  have em : f_X12_has gm am (nI k) v2 = if t_X12_in gm am v2 0 4 = 0 then f_X12_has_27 am gm (nI k) v2 2 else f_X12_has_27 am gm (nI k) v2 0 := by
    unfold f_X12_has
    rw [isOp_1 hK.2.2.1 hk (by omega), Option.bind_some, if_neg (by decide)]
  by_cases q : v2 < nI 0 ∨ nI 4 < v2
  · refine Or.inr (Or.inr ⟨1, (0, upd gm 8 (nI 2)), ?_, rfl, ?_, thr_8, h8 _⟩)
    · unfold f_X11_has
      have hne : ∀ j, j ≤ 4 → ¬ v2 = nI j := fun j hj e => by
        rw [e, nI_ltI (by omega) (by decide), nI_ltI (by decide) (by omega)] at q
        omega
      rw [hK.2.1, getF_1 hk hK6, om_s, if_neg (show ¬ v2 = 0 from hne 0 (by decide)), if_neg (show ¬ v2 = 1 from hne 1 (by decide)), if_neg (show ¬ v2 = 2 from hne 2 (by decide)), if_neg (show ¬ v2 = 3 from hne 3 (by decide)), if_neg (show ¬ v2 = 4 from hne 4 (by decide))]
    · rw [em, if_pos (show t_X12_in gm am v2 0 4 = 0 from in_0 q)]
      exact hbad _ 2 (by decide) (by decide)
  rcases tri v2 (lo := 0) (hi := 4) (by decide) (by decide) with q' | q' | ⟨j, q1, q2, rfl⟩
  · exact absurd (Or.inl q') q
  · exact absurd (Or.inr q') q
  have hin : ¬ t_X12_in gm am (nI j) 0 4 = 0 := by rw [show t_X12_in gm am (nI j) 0 4 = 1 from in_1 (lo := 0) (hi := 4) (by omega) q2 (by decide)]; decide
  have h0' : upd gm 8 0 0 = nI d := (upd_n _ _ (by decide)).trans h0
  have key : ∃ x : Nat, f_X11_has g a (nI k) (nI j) = some (.inr (nI x)) ∧ f_X12_has_27 am gm (nI k) (nI j) 0 = some (nI x, upd gm 8 0) := by
    have hj : j = 0 ∨ j = 1 ∨ j = 2 ∨ j = 3 ∨ j = 4 := by omega
    have w1 := o1.2.2.1
    have w3 := o1.2.2.2.1
    unfold f_X11_has f_X12_has_27
    rw [hK.2.1, getF_1 hk hK6, om_s, if_pos (le00 (by decide)), ck_t (inB_t (by omega) (by decide)), nI_clamp (by omega), o3]
    have hne : ∀ e : Nat, ar k ≠ e → e < 4 → ¬ nI (ar k) = nI e := fun e h h4 h5 => h ((nI_eqs (by omega) (by omega)).mp h5)
    rcases hj with rfl | rfl | rfl | rfl | rfl
    · obtain ⟨b, hb, e1, e2⟩ := Ver_two (idX hB o1) (idM hd h0' o2)
      refine ⟨b, ?_, ?_⟩
      · rw [if_pos (show nI 0 = 0 from rfl), e1, Option.bind_some, ck_t (boB_b hb)]
      · rw [if_neg (show ¬ (2 : Int32) ≤ nI 0 by decide), if_pos (show nI 0 = 0 from rfl), e2, Option.bind_some, ck_t (boB_b hb)]
    · obtain ⟨b, hb, e1, e2⟩ := Ver_two (syX hB o1) (syM hd h0' o2)
      refine ⟨b, ?_, ?_⟩
      · rw [if_neg (show ¬ nI 1 = 0 by decide), if_pos (show nI 1 = 1 from rfl), e1, Option.bind_some, ck_t (boB_b hb)]
      · rw [if_neg (show ¬ (2 : Int32) ≤ nI 1 by decide), if_neg (show ¬ nI 1 = 0 by decide), e2, Option.bind_some, ck_t (boB_b hb)]
    · rw [if_neg (show ¬ nI 2 = 0 by decide), if_neg (show ¬ nI 2 = 1 by decide), if_pos (show nI 2 = 2 from rfl), if_pos (show (2 : Int32) ≤ nI 2 by decide), if_pos (show nI 2 = 2 from rfl)]
      by_cases hw : ar k = 2
      · rw [hw] at o1 o2
        obtain ⟨b, hb, e1, e2⟩ := Ver_two (asX hB o1) (asM hd h0' o2)
        refine ⟨b, ?_, ?_⟩
        · rw [e1, Option.bind_some, ck_t (boB_b hb)]
        · rw [hw, if_pos (show nI 2 = 2 from rfl), e2, Option.bind_some]
          rcases hb with rfl | rfl
          · rw [if_pos (show nI 0 = 0 from rfl)]; rfl
          · rw [if_neg (show ¬ nI 1 = 0 by decide)]; rfl
      · refine ⟨0, ?_, ?_⟩
        · unfold f_X5_isAssociative
          rw [o1.2.1, if_neg (show ¬ nI (ar k) = 2 from hne 2 hw (by decide)), Option.bind_some, ck_t (by decide)]
          rfl
        · rw [if_neg (show ¬ nI (ar k) = 2 from hne 2 hw (by decide))]; rfl
    · rw [if_neg (show ¬ nI 3 = 0 by decide), if_neg (show ¬ nI 3 = 1 by decide), if_neg (show ¬ nI 3 = 2 by decide), if_pos (show nI 3 = 3 from rfl), if_pos (show (2 : Int32) ≤ nI 3 by decide), if_neg (show ¬ nI 3 = 2 by decide)]
      by_cases hw : ar k = 3
      · rw [hw] at o1 o2
        obtain ⟨b, hb, e1, e2⟩ := Ver_two (maX hB o1) (maM hd h0' o2)
        refine ⟨b, ?_, ?_⟩
        · rw [e1, Option.bind_some, ck_t (boB_b hb)]
        · rw [hw, if_pos (show nI 3 = 3 from rfl), if_pos (show nI 3 = 3 from rfl), e2, Option.bind_some]
          rcases hb with rfl | rfl
          · rw [if_pos (show nI 0 = 0 from rfl)]; rfl
          · rw [if_neg (show ¬ nI 1 = 0 by decide)]; rfl
      · refine ⟨0, ?_, ?_⟩
        · unfold f_X5_isMajority
          rw [o1.2.1, if_neg (show ¬ nI (ar k) = 3 from hne 3 hw (by decide)), Option.bind_some, ck_t (by decide)]
          rfl
        · rw [if_neg (show ¬ nI (ar k) = 3 from hne 3 hw (by decide))]; rfl
    · rw [if_neg (show ¬ nI 4 = 0 by decide), if_neg (show ¬ nI 4 = 1 by decide), if_neg (show ¬ nI 4 = 2 by decide), if_neg (show ¬ nI 4 = 3 by decide), if_pos (show nI 4 = 4 from rfl), if_pos (show (2 : Int32) ≤ nI 4 by decide), if_neg (show ¬ nI 4 = 2 by decide)]
      by_cases hw : ar k = 3
      · rw [hw] at o1 o2
        obtain ⟨b, hb, e1, e2⟩ := Ver_two (mlX hB o1) (mlM hd h0' o2)
        refine ⟨b, ?_, ?_⟩
        · rw [e1, Option.bind_some, ck_t (boB_b hb)]
        · rw [hw, if_pos (show nI 3 = 3 from rfl), if_neg (show ¬ nI 4 = 3 by decide), e2, Option.bind_some]
          rcases hb with rfl | rfl
          · rw [if_pos (show nI 0 = 0 from rfl)]; rfl
          · rw [if_neg (show ¬ nI 1 = 0 by decide)]; rfl
      · refine ⟨0, ?_, ?_⟩
        · unfold f_X5_isMaltsev
          rw [o1.2.1, if_neg (show ¬ nI (ar k) = 3 from hne 3 hw (by decide)), Option.bind_some, ck_t (by decide)]
          rfl
        · rw [if_neg (show ¬ nI (ar k) = 3 from hne 3 hw (by decide))]; rfl
  obtain ⟨x, k1, k2⟩ := key
  exact Or.inl ⟨nI x, (nI x, upd gm 8 0), k1, em.trans ((if_neg hin).trans k2), thr_8, rfl, h8 _⟩
