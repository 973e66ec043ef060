/-! operation, make, answers, code. -/
theorem rem_ (a d : Nat) : nI a - nI (a / d) * nI d = nI (a % d) := by
  have h := Nat.div_add_mod a d
  rw [Nat.mul_comm] at h
  rw [pk_mul, pk_sub (Nat.div_mul_le_self a d)]
  congr 1
  omega
theorem pts {k d w : Nat} {g : xG} {a : xA} (hB : Bas d g a) (hw : w ≤ 3) (h : g (15 + k) = nI w) : t_X5_points k g a = nI (d ^ w) := by
  unfold t_X5_points
  rw [h, power_B hB (by omega)]
theorem begin7 {k d w : Nat} {g : xG} (hk : k ≤ 6) (hw : w ≤ 3) (h : g (15 + k) = nI w) : ∀ (r p n : Nat) (a : xA), p + r = d ^ w → r < n → Bas d g a →
    ∃ f, f_X5_begin_7 k n g a (nI p) = some (g, upA a (47 + k) f) ∧ (∀ q, q < p → f q = a (47 + k) q) ∧ ∀ q, p ≤ q → q < d ^ w → f q = nI (dg d q 0)
  | 0, p, n, a, hp, hn, hB => by
    obtain ⟨n, rfl⟩ := pos_of hn
    have h27 := pw3 hB.1 hw
    refine ⟨a (47 + k), ?_, fun _ _ => rfl, fun q h1 h2 => by omega⟩
    rw [e_X5_begin_7, pts hB hw h, if_pos (nI_le (by omega) (by omega)), upA_id]
  | r + 1, p, n, a, hp, hn, hB => by
    obtain ⟨n, rfl⟩ := pos_of hn
    have h27 := pw3 hB.1 hw
    have s1 : Sm [] [47, 48, 49, 50, 51, 52, 53] g a g (upA a (47 + k) (upd (a (47 + k)) p (nI (dg d p 0)))) := Sm_A Sm_rfl (by
      rcases (by omega : k = 0 ∨ k = 1 ∨ k = 2 ∨ k = 3 ∨ k = 4 ∨ k = 5 ∨ k = 6) with rfl | rfl | rfl | rfl | rfl | rfl | rfl <;> decide)
    obtain ⟨f, e1, e2, e3⟩ := begin7 hk hw h r (p + 1) n (upA a (47 + k) (upd (a (47 + k)) p (nI (dg d p 0)))) (by omega) (by omega) (Bas_sm hB s1)
    refine ⟨f, ?_, fun q hq => ?_, fun q h1 h2 => ?_⟩
    · rw [e_X5_begin_7, pts hB hw h, if_neg (nI_ge (by omega) (by omega))]
      unfold t_X5_setAnswer
      rw [show t_X4_digit g a (nI p) 0 = nI (dg d p 0) from digit_B (j := 0) hB (by omega) (by decide), put_in (by omega) (by decide), show nI p + 1 = nI (p + 1) from nI_1 p, e1, upA_2]
    · rw [e2 q (by omega), upA_s, upd_n _ _ (by omega)]
    · by_cases hq : q = p
      · rw [hq, e2 p (by omega), upA_s, upd_s]
      · exact e3 q (by omega) h2
theorem beginO {k d w : Nat} {g : xG} {a : xA} (hk : k ≤ 6) (hw : w ≤ 3) (hB : Bas d g a) :
    ∃ f, f_X5_begin k g a (nI w) = some (upd g (15 + k) (nI w), upA a (47 + k) f) ∧ ∀ q, q < d ^ w → f q = nI (dg d q 0) := by
  have h27 := pw3 hB.1 hw
  obtain ⟨f, e1, _, e3⟩ := begin7 (d := d) hk hw (upd_s ..) (d ^ w) 0 fu a (by omega) (fu_gt (by omega)) (Bas_fr (g' := upd g (15 + k) (nI w)) hB (upd_n _ _ (by omega)) rfl rfl)
  exact ⟨f, e1, fun q hq => e3 q (Nat.zero_le _) hq⟩
/-- what is made -/
def mk (d what x y z : Nat) : Nat := (t_X5_madeAnswer 0 (fun _ => nI d) a0X (nI what) (nI x) (nI y) (nI z)).toNatClampNeg
theorem mk_2 : ∀ w, w < 5 → ∀ x, x < 2 → ∀ y, y < 2 → ∀ z, z < 2 → t_X5_madeAnswer 0 (fun _ => nI 2) a0X (nI w) (nI x) (nI y) (nI z) = nI (mk 2 w x y z) ∧ mk 2 w x y z < 2 ∧ f_X12_madeOf (fun _ => nI 2) a0M (nI w) (nI x) (nI y) (nI z) = some (nI (mk 2 w x y z)) := by decide +kernel
theorem mk_3 : ∀ w, w < 5 → ∀ x, x < 3 → ∀ y, y < 3 → ∀ z, z < 3 → t_X5_madeAnswer 0 (fun _ => nI 3) a0X (nI w) (nI x) (nI y) (nI z) = nI (mk 3 w x y z) ∧ mk 3 w x y z < 3 ∧ f_X12_madeOf (fun _ => nI 3) a0M (nI w) (nI x) (nI y) (nI z) = some (nI (mk 3 w x y z)) := by decide +kernel
theorem mk_ok {d w x y z : Nat} (hd : d = 2 ∨ d = 3) (hw : w < 5) (hx : x < d) (hy : y < d) (hz : z < d) : t_X5_madeAnswer 0 (fun _ => nI d) a0X (nI w) (nI x) (nI y) (nI z) = nI (mk d w x y z) ∧ mk d w x y z < d ∧ f_X12_madeOf (fun _ => nI d) a0M (nI w) (nI x) (nI y) (nI z) = some (nI (mk d w x y z)) := by
  rcases hd with rfl | rfl
  · exact mk_2 w hw x hx y hy z hz
  · exact mk_3 w hw x hx y hy z hz
theorem madeX {k d w x y z : Nat} {g : xG} {a : xA} (h0 : g 0 = nI d) (hd : d = 2 ∨ d = 3) (hw : w < 5) (hx : x < d) (hy : y < d) (hz : z < d) : t_X5_madeAnswer k g a (nI w) (nI x) (nI y) (nI z) = nI (mk d w x y z) := by
  have : t_X5_madeAnswer k g a (nI w) (nI x) (nI y) (nI z) = t_X5_madeAnswer 0 (fun _ => g 0) a0X (nI w) (nI x) (nI y) (nI z) := rfl
  rw [this, h0]
  exact (mk_ok hd hw hx hy hz).1
theorem madeM {d w x y z : Nat} {g : xG} {a : xA} (h0 : g 0 = nI d) (hd : d = 2 ∨ d = 3) (hw : w < 5) (hx : x < d) (hy : y < d) (hz : z < d) : f_X12_madeOf g a (nI w) (nI x) (nI y) (nI z) = some (nI (mk d w x y z)) := by
  have : f_X12_madeOf g a (nI w) (nI x) (nI y) (nI z) = f_X12_madeOf (fun _ => g 0) a0M (nI w) (nI x) (nI y) (nI z) := rfl
  rw [this, h0]
  exact (mk_ok hd hw hx hy hz).2.2
theorem become29 {k d w what : Nat} {g : xG} (hk : k ≤ 6) (hw : w ≤ 3) (hwh : what < 5) (h : g (15 + k) = nI w) : ∀ (r p n : Nat) (a : xA), p + r = d ^ w → r < n → Bas d g a →
    ∃ f, f_X5_become_29 k n g a (nI what) (nI p) = some (g, upA a (47 + k) f) ∧ (∀ q, q < p → f q = a (47 + k) q) ∧ ∀ q, p ≤ q → q < d ^ w → f q = nI (mk d what (dg d q 0) (dg d q 1) (dg d q 2))
  | 0, p, n, a, hp, hn, hB => by
    obtain ⟨n, rfl⟩ := pos_of hn
    have h27 := pw3 hB.1 hw
    refine ⟨a (47 + k), ?_, fun _ _ => rfl, fun q h1 h2 => by omega⟩
    rw [e_X5_become_29, pts hB hw h, if_pos (nI_le (by omega) (by omega)), upA_id]
  | r + 1, p, n, a, hp, hn, hB => by
    obtain ⟨n, rfl⟩ := pos_of hn
    have h27 := pw3 hB.1 hw
    have hd0 : 0 < d := by have := hB.1; omega
    have s1 : Sm [] [47, 48, 49, 50, 51, 52, 53] g a g (upA a (47 + k) (upd (a (47 + k)) p (nI (mk d what (dg d p 0) (dg d p 1) (dg d p 2))))) := Sm_A Sm_rfl (by
      rcases (by omega : k = 0 ∨ k = 1 ∨ k = 2 ∨ k = 3 ∨ k = 4 ∨ k = 5 ∨ k = 6) with rfl | rfl | rfl | rfl | rfl | rfl | rfl <;> decide)
    obtain ⟨f, e1, e2, e3⟩ := become29 hk hw hwh h r (p + 1) n (upA a (47 + k) (upd (a (47 + k)) p (nI (mk d what (dg d p 0) (dg d p 1) (dg d p 2))))) (by omega) (by omega) (Bas_sm hB s1)
    refine ⟨f, ?_, fun q hq => ?_, fun q h1 h2 => ?_⟩
    · rw [e_X5_become_29, pts hB hw h, if_neg (nI_ge (by omega) (by omega))]
      unfold t_X5_setAnswer
      rw [show t_X4_digit g a (nI p) 0 = nI (dg d p 0) from digit_B (j := 0) hB (by omega) (by decide), show t_X4_digit g a (nI p) 1 = nI (dg d p 1) from digit_B (j := 1) hB (by omega) (by decide), show t_X4_digit g a (nI p) 2 = nI (dg d p 2) from digit_B (j := 2) hB (by omega) (by decide), madeX hB.2.1 hB.1 hwh (dg_lt hd0 _ _) (dg_lt hd0 _ _) (dg_lt hd0 _ _), put_in (by omega) (by decide), show nI p + 1 = nI (p + 1) from nI_1 p, e1, upA_2]
    · rw [e2 q (by omega), upA_s, upd_n _ _ (by omega)]
    · by_cases hq : q = p
      · rw [hq, e2 p (by omega), upA_s, upd_s]
      · exact e3 q (by omega) h2
def wmk (what : Nat) : Nat := if what ≤ 1 then 2 else if what = 4 then 1 else 3
theorem wmk_le (what : Nat) : 1 ≤ wmk what ∧ wmk what ≤ 3 := by
  unfold wmk
  split
  · decide
  · split <;> decide
theorem becomeO {k d what : Nat} {g : xG} {a : xA} (hk : k ≤ 6) (hwh : what < 5) (hB : Bas d g a) :
    ∃ f, f_X5_become k g a (nI what) = some (upd g (15 + k) (nI (wmk what)), upA a (47 + k) f) ∧ ∀ q, q < d ^ wmk what → f q = nI (mk d what (dg d q 0) (dg d q 1) (dg d q 2)) := by
  have hw := (wmk_le what).2
  have h27 := pw3 hB.1 hw
  obtain ⟨f1, e1, _⟩ := beginO hk hw hB
  have hB1 : Bas d (upd g (15 + k) (nI (wmk what))) (upA a (47 + k) f1) := Bas_fr hB (upd_n _ _ (by omega)) (upA_n _ _ (by omega)) (upA_n _ _ (by omega))
  obtain ⟨f, e2, _, e3⟩ := become29 (d := d) hk hw hwh (upd_s ..) (d ^ wmk what) 0 fu (upA a (47 + k) f1) (by omega) (fu_gt (by omega)) hB1
  refine ⟨f, ?_, fun q hq => e3 q (Nat.zero_le _) hq⟩
  have e4 : f_X5_become_24 k g a (nI what) (nI (wmk what)) = some (upd g (15 + k) (nI (wmk what)), upA a (47 + k) f) := by
    unfold f_X5_become_24
    rw [e1, Option.bind_some, z0, e2, upA_2]
  rw [← e4]
  unfold f_X5_become
  have h : what = 0 ∨ what = 1 ∨ what = 2 ∨ what = 3 ∨ what = 4 := by omega
  rcases h with rfl | rfl | rfl | rfl | rfl <;> rfl
theorem takes12 {K d : Nat} (hK : K < 6) (hd : d = 2 ∨ d = 3) {g : xG} (h0 : g 0 = nI d) (h2 : g 2 = nI K) : ∀ (r p n : Nat) (a : xA), p + r = 27 → r < n →
    ∃ f, f_X12_takes_12 n g a (nI p) = some (nI K, upd g 2 (nI (K + 1)), upA a 4 f) ∧ (∀ i, (i < 27 * K + p ∨ 27 * K + 27 ≤ i) → f i = a 4 i) ∧ ∀ q, p ≤ q → q < 27 → f (27 * K + q) = nI (q % d)
  | 0, p, n, a, hp, hn => by
    obtain ⟨n, rfl⟩ := pos_of hn
    refine ⟨a 4, ?_, fun _ _ => rfl, fun q h1 h2 => by omega⟩
    rw [e_X12_takes_12, if_pos (show (27 : Int32) ≤ nI p from nI_le (a := 27) (by omega) (by omega)), upA_id, upd_s, h2, show nI K + 1 = nI (K + 1) from nI_1 K, nI_pred]
  | r + 1, p, n, a, hp, hn => by
    obtain ⟨n, rfl⟩ := pos_of hn
    obtain ⟨f, e1, e2, e3⟩ := takes12 hK hd h0 h2 r (p + 1) n (upA a 4 (upd (a 4) (27 * K + p) (nI (p % d)))) (by omega) (by omega)
    refine ⟨f, ?_, fun i hi => ?_, fun q h1 h2 => ?_⟩
    · rw [e_X12_takes_12, if_neg (show ¬ (27 : Int32) ≤ nI p from nI_ge (a := p) (b := 27) (by omega) (by decide)), h0, h2, ck_t (nzB_t (by omega) (by omega)), pk_rem (by omega) (by omega) (by omega)]
      simp only [z27, z1, nI_add, pk_mul]
      rw [ck_t (inB_t (by omega) (by decide)), nI_clamp (by omega), e1, upA_2]
    · rw [e2 i (by omega), upA_s, upd_n _ _ (by omega)]
    · by_cases hq : q = p
      · rw [hq, e2 _ (by omega), upA_s, upd_s]
      · exact e3 q (by omega) h2
theorem takesM {K d : Nat} (hK : K < 6) (hd : d = 2 ∨ d = 3) {g : xG} (h0 : g 0 = nI d) (h2 : g 2 = nI K) (a : xA) (v : Int32) :
    ∃ f, f_X12_takes g a v = some (nI K, upd g 2 (nI (K + 1)), upA (upA a 3 (upd (a 3) K v)) 4 f) ∧ (∀ i, (i < 27 * K ∨ 27 * K + 27 ≤ i) → f i = a 4 i) ∧ ∀ q, q < 27 → f (27 * K + q) = nI (q % d) := by
  obtain ⟨f, e1, e2, e3⟩ := takes12 hK hd h0 h2 27 0 fu (upA a 3 (upd (a 3) K v)) (by omega) (fu_gt (by omega))
  refine ⟨f, ?_, fun i hi => ?_, fun q hq => e3 q (Nat.zero_le _) hq⟩
  · unfold f_X12_takes
    rw [h2, ck_t (inB_t hK (by decide)), nI_clamp (by omega)]
    exact e1
  · rw [e2 i (by omega), upA_n _ _ (by decide)]
theorem lays2 {op d what : Nat} (hop : op ≤ 6) (hd : d = 2 ∨ d = 3) (hwh : what < 5) {g : xG} (h0 : g 0 = nI d) : ∀ (r p n : Nat) (a : xA), p + r = 27 → r < n →
    ∃ f, f_X12_lays_2 g n a (nI op) (nI what) (nI p) = some (upA a 4 f) ∧ (∀ i, (i < 27 * op + p ∨ 27 * op + 27 ≤ i) → f i = a 4 i) ∧ ∀ q, p ≤ q → q < 27 → f (27 * op + q) = nI (mk d what (dg d q 0) (dg d q 1) (dg d q 2))
  | 0, p, n, a, hp, hn => by
    obtain ⟨n, rfl⟩ := pos_of hn
    refine ⟨a 4, ?_, fun _ _ => rfl, fun q h1 h2 => by omega⟩
    rw [e_X12_lays_2, if_pos (show (27 : Int32) ≤ nI p from nI_le (a := 27) (by omega) (by omega)), upA_id]
  | r + 1, p, n, a, hp, hn => by
    obtain ⟨n, rfl⟩ := pos_of hn
    have hd0 : 0 < d := by omega
    obtain ⟨f, e1, e2, e3⟩ := lays2 hop hd hwh h0 r (p + 1) n (upA a 4 (upd (a 4) (27 * op + p) (nI (mk d what (dg d p 0) (dg d p 1) (dg d p 2))))) (by omega) (by omega)
    have hz : nzB (nI d) = true := nzB_t hd0 (by omega)
    have q1 : p / d < 2 ^ 31 := Nat.lt_of_le_of_lt (Nat.div_le_self ..) (by omega)
    have q2 : p / d / d < 2 ^ 31 := Nat.lt_of_le_of_lt (Nat.div_le_self ..) q1
    have d0 : p % d = dg d p 0 := by simp [dg]
    have d1 : p / d % d = dg d p 1 := by simp [dg]
    have d2 : p / d / d % d = dg d p 2 := by
      unfold dg
      rw [Nat.div_div_eq_div_mul, Nat.pow_succ, Nat.pow_one]
    refine ⟨f, ?_, fun i hi => ?_, fun q h1 h2 => ?_⟩
    · rw [e_X12_lays_2, if_neg (show ¬ (27 : Int32) ≤ nI p from nI_ge (a := p) (b := 27) (by omega) (by decide)), h0, ck_t hz, ck_t hz, ck_t hz, ck_t hz, ck_t hz, ck_t hz, pk_div (by omega) hd0 (by omega), pk_div q1 hd0 (by omega), pk_div q2 hd0 (by omega), rem_ _ d, rem_ _ d, rem_ _ d, d0, d1, d2, madeM h0 hd hwh (dg_lt hd0 _ _) (dg_lt hd0 _ _) (dg_lt hd0 _ _), Option.bind_some]
      simp only [z27, z1, nI_add, pk_mul]
      rw [ck_t (inB_t (by omega) (by decide)), nI_clamp (by omega), e1, upA_2]
    · rw [e2 i (by omega), upA_s, upd_n _ _ (by omega)]
    · by_cases hq : q = p
      · rw [hq, e2 _ (by omega), upA_s, upd_s]
      · exact e3 q (by omega) h2
theorem laysM {op d what : Nat} (hop : op ≤ 6) (hd : d = 2 ∨ d = 3) (hwh : what < 5) {g : xG} (h0 : g 0 = nI d) (a : xA) :
    ∃ f, f_X12_lays g a (nI op) (nI what) = some (upA a 4 f) ∧ (∀ i, (i < 27 * op ∨ 27 * op + 27 ≤ i) → f i = a 4 i) ∧ ∀ q, q < 27 → f (27 * op + q) = nI (mk d what (dg d q 0) (dg d q 1) (dg d q 2)) := by
  obtain ⟨f, e1, e2, e3⟩ := lays2 hop hd hwh h0 27 0 fu a (by omega) (fu_gt (by omega))
  exact ⟨f, e1, fun i hi => e2 i (by omega), fun q hq => e3 q (Nat.zero_le _) hq⟩
theorem CK_new {d K w : Nat} {ar : Nat → Nat} {an : Nat → Nat → Nat} {T : Nat → Nat} {g : xG} {a : xA} {gm gm' : xG} {am am' : xA} {f : Nat → Int32} (hd : d = 2 ∨ d = 3) (h : CK d K ar an g a gm am) (hK : K < 6) (hw : 1 ≤ w ∧ w ≤ 3) (hT : ∀ q, q < d ^ w → T q < d) (hf : ∀ q, q < d ^ w → f q = nI (T q))
    (h2 : gm' 2 = nI (K + 1)) (h3 : am' 3 = upd (am 3) K (nI w)) (h4 : ∀ i, i < 27 * K → am' 4 i = am 4 i) (h5 : ∀ q, q < d ^ w → am' 4 (27 * K + q) = nI (T q)) :
    CK d (K + 1) (fun k => if k = K then w else ar k) (fun k => if k = K then T else an k) (upd (upd g 4 (nI (K + 1))) (15 + K) (nI w)) (upA a (47 + K) f) gm' am' := by
  refine ⟨by omega, (upd_n _ _ (by omega)).trans (upd_s ..), h2, fun k hk => ?_⟩
  dsimp only
  rw [h3]
  by_cases he : k = K
  · rw [if_pos he, if_pos he, he, upd_s]
    refine ⟨⟨by omega, upd_s .., hw.1, hw.2, fun p hp => ?_⟩, ⟨by omega, hw.1, hw.2, fun p hp => ⟨h5 p hp, hT p hp⟩⟩, rfl⟩
    rw [upA_s]
    exact ⟨hf p hp, hT p hp⟩
  · rw [if_neg he, if_neg he, upd_n _ _ he]
    obtain ⟨q1, q2, q3⟩ := h.2.2.2 k (by omega)
    have hw27 := pw3 hd q1.2.2.2.1
    refine ⟨⟨q1.1, ?_, q1.2.2.1, q1.2.2.2.1, fun p hp => ?_⟩, ⟨q2.1, q2.2.1, q2.2.2.1, fun p hp => ⟨(h4 _ (by omega)).trans (q2.2.2.2 p hp).1, (q2.2.2.2 p hp).2⟩⟩, q3⟩
    · rw [up2 (by omega) (by omega)]
      exact q1.2.1
    · rw [upA_n _ _ (by omega)]
      exact q1.2.2.2.2 p hp
theorem ob1_operation : ob_operation Cpl := by
  intro g a gm am v1 h
  have h8 : ∀ v, Cpl g a (upd gm 8 v) am := fun v => Cpl_8 h
  obtain ⟨d, R, K, T, V, C, pl, tu, ar, ch, cr, an, cv, hB, h0, hR, hK, hT, hI⟩ := h
  have hd := hB.1
  have hK6 := hK.1
  have hbad : ∀ s : Nat, s ≠ 0 → s < 4 → f_X12_operation_28 gm am v1 (nI s) = some (0, upd gm 8 (nI s), am) := fun s hs h4 => by
    unfold f_X12_operation_28
    rw [if_neg (by rw [upd_s]; exact nI_nle (by omega) (by omega))]
  by_cases q : v1 < nI 1 ∨ nI 3 < v1
  · refine Or.inr (Or.inl ⟨(1, g, a), (0, upd gm 8 (nI 1), am), ?_, rfl, ?_, thr_8, h8 _⟩)
    · unfold f_X11_operation
      rcases out_ (by omega) (by omega) q with q' | ⟨q3, q4, _⟩
      · rw [if_pos (show v1 < 1 from q')]
        rfl
      · rw [if_neg (show ¬ v1 < 1 from q3), if_neg (show ¬ v1 ≤ 3 from q4)]
        rfl
    · unfold f_X12_operation
      rw [if_pos (show t_X12_in gm am v1 1 3 = 0 from in_0 q)]
      exact hbad 1 (by decide) (by decide)
  rcases tri v1 (lo := 1) (hi := 3) (by omega) (by decide) with q' | q' | ⟨j, q1, q2, rfl⟩
  · exact absurd (Or.inl q') q
  · exact absurd (Or.inr q') q
  have hin : ¬ t_X12_in gm am (nI j) 1 3 = 0 := by
    rw [show t_X12_in gm am (nI j) 1 3 = 1 from in_1 (lo := 1) (hi := 3) q1 q2 (by omega)]
    decide
  have hc1 : ¬ nI j < 1 := nI_nlt (a := j) (b := 1) q1 (by omega)
  have hc2 : nI j ≤ 3 := nI_le (a := j) (b := 3) q2 (by omega)
  by_cases hfull : K = 6
  · refine Or.inr (Or.inr ⟨(2, g, a), (0, upd gm 8 (nI 2), am), ?_, rfl, ?_, thr_8, h8 _⟩)
    · unfold f_X11_operation
      rw [if_neg hc1, if_pos hc2, hK.2.1, hfull, if_neg (show ¬ nI 6 < 6 by decide)]
    · unfold f_X12_operation
      rw [if_neg hin, hK.2.2.1, hfull, if_pos (show nI 6 = 6 from rfl)]
      exact hbad 2 (by decide) (by decide)
  have hKl : K < 6 := by omega
  obtain ⟨f, e1, e2⟩ := beginO (k := K) (w := j) (g := upd g 4 (nI (K + 1))) (a := a) (d := d) (by omega) q2 (Bas_fr hB (upd_n _ _ (by decide)) rfl rfl)
  obtain ⟨fm, m1, m2, m3⟩ := takesM (g := upd gm 8 0) hKl hd ((upd_n _ _ (by decide)).trans h0) ((upd_n _ _ (by decide)).trans hK.2.2.1) am (nI j)
  have h27 := pw3 hd q2
  refine Or.inl ⟨(nI K, upd (upd g 4 (nI (K + 1))) (15 + K) (nI j), upA a (47 + K) f), (nI K, upd (upd gm 8 0) 2 (nI (K + 1)), upA (upA am 3 (upd (am 3) K (nI j))) 4 fm), ?_, ?_, ?_, rfl, ?_⟩
  · unfold f_X11_operation
    rw [if_neg hc1, if_pos hc2, hK.2.1, if_pos (show nI K < 6 from nI_lt (a := K) (b := 6) hKl (by decide))]
    unfold f_X6_add
    rw [hK.2.1, show nI K + 1 = nI (K + 1) from nI_1 K, upd_s, getF_1 (by omega) (by omega), om_s, e1, Option.bind_some, Option.bind_some]
  · unfold f_X12_operation
    rw [if_neg hin, hK.2.2.1, if_neg (show ¬ nI K = 6 from fun e => hfull ((nI_eq (b := 6) (by omega) (by decide)).mp e))]
    unfold f_X12_operation_28
    rw [if_pos (le00 (by decide)), m1, Option.bind_some]
  · show upd (upd gm 8 0) 2 (nI (K + 1)) 8 = 0
    rw [upd_n _ _ (by decide), upd_s]
  · have hg : ∀ i, i ≠ 4 → i ≠ 15 + K → upd (upd g 4 (nI (K + 1))) (15 + K) (nI j) i = g i := fun i h1 h2 => up2 h1 h2
    have hm : ∀ i, i ≠ 8 → i ≠ 2 → upd (upd gm 8 0) 2 (nI (K + 1)) i = gm i := fun i h1 h2 => up2 h1 h2
    have ha : ∀ i, i ≠ 47 + K → upA a (47 + K) f i = a i := fun i h1 => upA_n _ _ h1
    have hb : ∀ i, i ≠ 3 → i ≠ 4 → upA (upA am 3 (upd (am 3) K (nI j))) 4 fm i = am i := fun i h1 h2 => by rw [upA_n _ _ h2, upA_n _ _ h1]
    show Cpl (upd (upd g 4 (nI (K + 1))) (15 + K) (nI j)) (upA a (47 + K) f) (upd (upd gm 8 0) 2 (nI (K + 1))) (upA (upA am 3 (upd (am 3) K (nI j))) 4 fm)
    refine ⟨d, R, K + 1, T, V, C, pl, tu, fun k => if k = K then j else ar k, ch, cr, fun k => if k = K then (fun q => dg d q 0) else an k, cv, Bas_fr hB (hg _ (by omega) (by omega)) (ha _ (by omega)) (ha _ (by omega)), (hm _ (by decide) (by decide)).trans h0, CR_fr hR (hg _ (by omega) (by omega)) (hm _ (by decide) (by decide)) (ha _ (by omega)) (ha _ (by omega)) (hb _ (by decide) (by decide)) (hb _ (by decide) (by decide)), CK_new hd hK hKl ⟨q1, q2⟩ (fun q _ => dg_lt (by omega) _ _) e2 (upd_s ..) ?_ (fun i hi => ?_) (fun q hq => ?_), CT_fr hT (hg _ (by omega) (by omega)) (hm _ (by decide) (by decide)) (ha _ (by omega)) (hb _ (by decide) (by decide)), CI_fr hI (Nat.le_refl _) (fun _ _ => rfl) (hg _ (by omega) (by omega)) (hg _ (by omega) (by omega)) (hm _ (by decide) (by decide)) (hm _ (by decide) (by decide)) (ha _ (by omega)) (ha _ (by omega)) (ha _ (by omega)) (ha _ (by omega)) (hb _ (by decide) (by decide)) (hb _ (by decide) (by decide))⟩
    · rw [upA_n _ _ (by decide), upA_s]
    · rw [upA_s]
      exact m2 i (Or.inl hi)
    · rw [upA_s, m3 q (by omega), dg_0]
theorem ob1_make : ob_make Cpl := by
  intro g a gm am v1 h
  have h8 : ∀ v, Cpl g a (upd gm 8 v) am := fun v => Cpl_8 h
  obtain ⟨d, R, K, T, V, C, pl, tu, ar, ch, cr, an, cv, hB, h0, hR, hK, hT, hI⟩ := h
  have hd := hB.1
  have hK6 := hK.1
  have hbad : ∀ s : Nat, s ≠ 0 → s < 4 → f_X12_make_28 gm am v1 (nI s) = some (0, upd gm 8 (nI s), am) := fun s hs h4 => by
    unfold f_X12_make_28
    rw [if_neg (by rw [upd_s]; exact nI_nle (by omega) (by omega))]
  by_cases q : v1 < nI 0 ∨ nI 4 < v1
  · refine Or.inr (Or.inl ⟨(1, g, a), (0, upd gm 8 (nI 1), am), ?_, rfl, ?_, thr_8, h8 _⟩)
    · unfold f_X11_make
      rcases out_ (by omega) (by omega) q with q' | ⟨q3, q4, _⟩
      · rw [if_pos (show v1 < 0 from q')]
        rfl
      · rw [if_neg (show ¬ v1 < 0 from q3), if_neg (show ¬ v1 ≤ 4 from q4)]
        rfl
    · unfold f_X12_make
      rw [if_pos (show t_X12_in gm am v1 0 4 = 0 from in_0 q)]
      exact hbad 1 (by decide) (by decide)
  rcases tri v1 (lo := 0) (hi := 4) (by omega) (by decide) with q' | q' | ⟨j, q1, q2, rfl⟩
  · exact absurd (Or.inl q') q
  · exact absurd (Or.inr q') q
  have hin : ¬ t_X12_in gm am (nI j) 0 4 = 0 := by
    rw [show t_X12_in gm am (nI j) 0 4 = 1 from in_1 (lo := 0) (hi := 4) q1 q2 (by omega)]
    decide
  have hc1 : ¬ nI j < 0 := nI_pos (by omega)
  have hc2 : nI j ≤ 4 := nI_le (a := j) (b := 4) q2 (by omega)
  by_cases hfull : K = 6
  · refine Or.inr (Or.inr ⟨(2, g, a), (0, upd gm 8 (nI 2), am), ?_, rfl, ?_, thr_8, h8 _⟩)
    · unfold f_X11_make
      rw [if_neg hc1, if_pos hc2, hK.2.1, hfull, if_neg (show ¬ nI 6 < 6 by decide)]
    · unfold f_X12_make
      rw [if_neg hin, hK.2.2.1, hfull, if_pos (show nI 6 = 6 from rfl)]
      exact hbad 2 (by decide) (by decide)
  have hKl : K < 6 := by omega
  have hw := wmk_le j
  obtain ⟨f, e1, e2⟩ := becomeO (k := K) (what := j) (g := upd g 4 (nI (K + 1))) (a := a) (d := d) (by omega) (by omega) (Bas_fr hB (upd_n _ _ (by decide)) rfl rfl)
  obtain ⟨fm, m1, m2, m3⟩ := takesM (g := upd gm 8 0) hKl hd ((upd_n _ _ (by decide)).trans h0) ((upd_n _ _ (by decide)).trans hK.2.2.1) am (nI (wmk j))
  obtain ⟨fl, l1, l2, l3⟩ := laysM (op := K) (what := j) (g := upd (upd gm 8 0) 2 (nI (K + 1))) (by omega) hd (by omega) ((up2 (by decide) (by decide)).trans h0) (upA (upA am 3 (upd (am 3) K (nI (wmk j)))) 4 fm)
  have h27 := pw3 hd hw.2
  rw [upA_2] at l1
  refine Or.inl ⟨(nI K, upd (upd g 4 (nI (K + 1))) (15 + K) (nI (wmk j)), upA a (47 + K) f), (nI K, upd (upd gm 8 0) 2 (nI (K + 1)), upA (upA am 3 (upd (am 3) K (nI (wmk j)))) 4 fl), ?_, ?_, ?_, rfl, ?_⟩
  · unfold f_X11_make
    rw [if_neg hc1, if_pos hc2, hK.2.1, if_pos (show nI K < 6 from nI_lt (a := K) (b := 6) hKl (by decide))]
    unfold f_X6_addMade
    rw [hK.2.1, show nI K + 1 = nI (K + 1) from nI_1 K, upd_s, getF_1 (by omega) (by omega), om_s, e1, Option.bind_some, Option.bind_some]
  · have e60 : f_X12_make_60 (upd gm 8 0) am (nI j) (nI (wmk j)) = some (nI K, upd (upd gm 8 0) 2 (nI (K + 1)), upA (upA am 3 (upd (am 3) K (nI (wmk j)))) 4 fl) := by
      unfold f_X12_make_60
      rw [m1, Option.bind_some, l1, Option.bind_some]
    unfold f_X12_make
    rw [if_neg hin, hK.2.2.1, if_neg (show ¬ nI K = 6 from fun e => hfull ((nI_eq (b := 6) (by omega) (by decide)).mp e))]
    unfold f_X12_make_28
    rw [if_pos (le00 (by decide)), ← e60]
    have h : j = 0 ∨ j = 1 ∨ j = 2 ∨ j = 3 ∨ j = 4 := by omega
    rcases h with rfl | rfl | rfl | rfl | rfl <;> rfl
  · show upd (upd gm 8 0) 2 (nI (K + 1)) 8 = 0
    rw [upd_n _ _ (by decide), upd_s]
  · have hg : ∀ i, i ≠ 4 → i ≠ 15 + K → upd (upd g 4 (nI (K + 1))) (15 + K) (nI (wmk j)) i = g i := fun i h1 h2 => up2 h1 h2
    have hm : ∀ i, i ≠ 8 → i ≠ 2 → upd (upd gm 8 0) 2 (nI (K + 1)) i = gm i := fun i h1 h2 => up2 h1 h2
    have ha : ∀ i, i ≠ 47 + K → upA a (47 + K) f i = a i := fun i h1 => upA_n _ _ h1
    have hb : ∀ i, i ≠ 3 → i ≠ 4 → upA (upA am 3 (upd (am 3) K (nI (wmk j)))) 4 fl i = am i := fun i h1 h2 => by rw [upA_n _ _ h2, upA_n _ _ h1]
    have hd0 : 0 < d := by omega
    show Cpl (upd (upd g 4 (nI (K + 1))) (15 + K) (nI (wmk j))) (upA a (47 + K) f) (upd (upd gm 8 0) 2 (nI (K + 1))) (upA (upA am 3 (upd (am 3) K (nI (wmk j)))) 4 fl)
    refine ⟨d, R, K + 1, T, V, C, pl, tu, fun k => if k = K then wmk j else ar k, ch, cr, fun k => if k = K then (fun q => mk d j (dg d q 0) (dg d q 1) (dg d q 2)) else an k, cv, Bas_fr hB (hg _ (by omega) (by omega)) (ha _ (by omega)) (ha _ (by omega)), (hm _ (by decide) (by decide)).trans h0, CR_fr hR (hg _ (by omega) (by omega)) (hm _ (by decide) (by decide)) (ha _ (by omega)) (ha _ (by omega)) (hb _ (by decide) (by decide)) (hb _ (by decide) (by decide)), CK_new hd hK hKl hw (fun q _ => (mk_ok hd (by omega) (dg_lt hd0 _ _) (dg_lt hd0 _ _) (dg_lt hd0 _ _)).2.1) e2 (upd_s ..) ?_ (fun i hi => ?_) (fun q hq => ?_), CT_fr hT (hg _ (by omega) (by omega)) (hm _ (by decide) (by decide)) (ha _ (by omega)) (hb _ (by decide) (by decide)), CI_fr hI (Nat.le_refl _) (fun _ _ => rfl) (hg _ (by omega) (by omega)) (hg _ (by omega) (by omega)) (hm _ (by decide) (by decide)) (hm _ (by decide) (by decide)) (ha _ (by omega)) (ha _ (by omega)) (ha _ (by omega)) (ha _ (by omega)) (hb _ (by decide) (by decide)) (hb _ (by decide) (by decide))⟩
    · rw [upA_n _ _ (by decide), upA_s]
    · rw [upA_s, l2 i (Or.inl hi), upA_s]
      exact m2 i (Or.inl hi)
    · rw [upA_s, l3 q (by omega)]
