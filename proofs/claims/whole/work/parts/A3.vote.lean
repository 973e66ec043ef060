/-! first: VOTE, the class. -/
def alV (d p : Nat) : Nat := if dg d p 0 = dg d p 1 ∨ dg d p 0 = dg d p 2 then 2 ^ dg d p 0 else if dg d p 1 = dg d p 2 then 2 ^ dg d p 1 else 2 ^ d - 1
theorem alV_lt {d p : Nat} (hd : d = 2 ∨ d = 3) : alV d p < 8 := by
  have h0 := dg_lt (d := d) (by omega) p 0
  have h1 := dg_lt (d := d) (by omega) p 1
  have key : ∀ v, v < d → 2 ^ v < 8 := fun v hv => by
    have : 2 ^ v < 2 ^ 3 := Nat.pow_lt_pow_right (by decide) (by omega)
    exact this
  unfold alV
  split
  · exact key _ h0
  · split
    · exact key _ h1
    · rcases hd with rfl | rfl <;> decide
theorem and2 {d v : Nat} (hd : d = 2 ∨ d = 3) (hv : v < d) : (2 ^ d - 1) &&& 2 ^ v = 2 ^ v := by
  rcases hd with rfl | rfl
  · rcases (by omega : v = 0 ∨ v = 1) with rfl | rfl <;> decide
  · rcases (by omega : v = 0 ∨ v = 1 ∨ v = 2) with rfl | rfl | rfl <;> decide
theorem onlyS {d p v : Nat} {g : xG} {a : xA} (hd : d = 2 ∨ d = 3) (hp : p < 27) (hv : v < d) (h : a 16 p = nI (2 ^ d - 1)) : t_X8_allowOnly g a (nI p) (nI v) = upA a 16 (upd (a 16) p (nI (2 ^ v))) := by
  unfold t_X8_allowOnly
  rw [at_in hp (by decide), h, shl_nI (by omega), nI_and, and2 hd hv, put_in hp (by decide)]
theorem vt11 {d : Nat} {g : xG} : ∀ (r p n : Nat) (a : xA), p + r = d ^ 3 → r < n → Bas d g a → (∀ q, q < p → a 16 q = nI (alV d q)) → (∀ q, p ≤ q → q < 27 → a 16 q = nI (2 ^ d - 1)) →
    ∃ F, f_X3_firstVote_11 n g a (nI p) = Option.bind (f_X8_find g (upA a 16 F)) (fun u4 => (if u4.1 = 0 then some ((-1), g, u4.2) else Option.bind (f_X8_foundCode g u4.2) (fun u7 => some (u7, g, u4.2)))) ∧ ∀ q, q < d ^ 3 → F q = nI (alV d q)
  | 0, p, n, a, hp, hn, hB, h1, h2 => by
    obtain ⟨n, rfl⟩ := pos_of hn
    have h27 := pw3 hB.1 (w := 3) (by decide)
    refine ⟨a 16, ?_, fun q hq => h1 q (by omega)⟩
    rw [e_X3_firstVote_11, show t_X4_power g a 3 = nI (d ^ 3) from power_B hB (by decide), if_pos (nI_le (by omega) (by omega)), upA_id]
  | r + 1, p, n, a, hp, hn, hB, h1, h2 => by
    obtain ⟨n, rfl⟩ := pos_of hn
    have hd := hB.1
    have hd0 : 0 < d := by omega
    have h27 := pw3 hd (w := 3) (by decide)
    have ap := h2 p (Nat.le_refl _) (by omega)
    have step : ∀ a1, a1 = upA a 16 (upd (a 16) p (nI (alV d p))) → ∃ F, f_X3_firstVote_11 n g a1 (nI (p + 1)) = Option.bind (f_X8_find g (upA a 16 F)) (fun u4 => (if u4.1 = 0 then some ((-1), g, u4.2) else Option.bind (f_X8_foundCode g u4.2) (fun u7 => some (u7, g, u4.2)))) ∧ ∀ q, q < d ^ 3 → F q = nI (alV d q) := fun a1 ea => by
      obtain ⟨F, e1, e2⟩ := vt11 (d := d) (g := g) r (p + 1) n a1 (by omega) (by omega) (by rw [ea]; exact Bas_fr hB rfl (upA_n _ _ (by decide)) (upA_n _ _ (by decide))) (fun q hq => by
        rw [ea, upA_s]
        by_cases he : q = p
        · rw [he, upd_s]
        · rw [upd_n _ _ he]; exact h1 q (by omega)) (fun q q1 q2 => by
        rw [ea, upA_s, upd_n _ _ (by omega)]
        exact h2 q (by omega) q2)
      rw [ea, upA_2] at e1
      rw [ea]
      exact ⟨F, e1, e2⟩
    have c0 : t_X4_digit g a (nI p) 0 = nI (dg d p 0) := digit_B (j := 0) hB (by omega) (by decide)
    have c1 : t_X4_digit g a (nI p) 1 = nI (dg d p 1) := digit_B (j := 1) hB (by omega) (by decide)
    have c2 : t_X4_digit g a (nI p) 2 = nI (dg d p 2) := digit_B (j := 2) hB (by omega) (by decide)
    have l0 := dg_lt hd0 p 0
    have l1 := dg_lt hd0 p 1
    have l2 := dg_lt hd0 p 2
    rw [e_X3_firstVote_11, show t_X4_power g a 3 = nI (d ^ 3) from power_B hB (by decide), if_neg (nI_ge (by omega) (by omega)), c0, c1, c2]
    unfold f_X3_firstVote_65
    rw [show nI p + 1 = nI (p + 1) from nI_1 p]
    by_cases e1 : dg d p 0 = dg d p 1
    · rw [if_pos (by rw [e1])]
      exact step _ (by rw [onlyS hd (by omega) l0 ap]; unfold alV; rw [if_pos (Or.inl e1)])
    · rw [if_neg (fun h => e1 ((nI_eqs (by omega) (by omega)).mp h))]
      by_cases e2 : dg d p 0 = dg d p 2
      · rw [if_pos (by rw [e2])]
        exact step _ (by rw [onlyS hd (by omega) l0 ap]; unfold alV; rw [if_pos (Or.inr e2)])
      · rw [if_neg (fun h => e2 ((nI_eqs (by omega) (by omega)).mp h))]
        have hno : ¬ (dg d p 0 = dg d p 1 ∨ dg d p 0 = dg d p 2) := fun h => h.elim e1 e2
        by_cases e3 : dg d p 1 = dg d p 2
        · rw [if_pos (by rw [e3])]
          exact step _ (by rw [onlyS hd (by omega) l1 ap]; unfold alV; rw [if_neg hno, if_pos e3])
        · rw [if_neg (fun h => e3 ((nI_eqs (by omega) (by omega)).mp h))]
          refine step a ?_
          unfold alV
          rw [if_neg hno, if_neg e3, upd_id _ _ ap, upA_id]
def MJ (d : Nat) (f : Nat → Nat) : Prop := ∀ p, p < d ^ 3 → ((dg d p 0 = dg d p 1 ∨ dg d p 0 = dg d p 2) → f p = dg d p 0) ∧ (¬ (dg d p 0 = dg d p 1 ∨ dg d p 0 = dg d p 2) → dg d p 1 = dg d p 2 → f p = dg d p 1)
theorem alV_MJ {d : Nat} {f : Nat → Nat} (hf : ∀ p, p < d ^ 3 → f p < d) : (∀ p, p < d ^ 3 → (alV d p).testBit (f p) = true) ↔ MJ d f := by
  constructor
  · intro h p hp
    have := h p hp
    unfold alV at this
    constructor
    · intro q
      rw [if_pos q, Nat.testBit_two_pow, decide_eq_true_iff] at this
      exact this.symm
    · intro q1 q2
      rw [if_neg q1, if_pos q2, Nat.testBit_two_pow, decide_eq_true_iff] at this
      exact this.symm
  · intro h p hp
    unfold alV
    by_cases q1 : dg d p 0 = dg d p 1 ∨ dg d p 0 = dg d p 2
    · rw [if_pos q1, Nat.testBit_two_pow, decide_eq_true_iff]
      exact ((h p hp).1 q1).symm
    · rw [if_neg q1]
      by_cases q2 : dg d p 1 = dg d p 2
      · rw [if_pos q2, Nat.testBit_two_pow, decide_eq_true_iff]
        exact ((h p hp).2 q1 q2).symm
      · rw [if_neg q2]
        exact all_bit (hf p hp)
def W3 (d R : Nat) (pl tu : Nat → Nat) (k : Nat) : Prop := MJ d (dg d k) ∧ Kp d R pl tu 3 (dg d k)
theorem VAL_V {d R : Nat} {pl tu f : Nat → Nat} (hd : d = 2 ∨ d = 3) (hR8 : R ≤ 8) (hR : ∀ r, r < R → 1 ≤ pl r ∧ pl r + d ≤ 5) (hf : ∀ p, p < d ^ 3 → f p < d) : VAL d 3 (SK d R 3 100 pl tu) (alV d) f ↔ MJ d f ∧ Kp d R pl tu 3 f := by
  unfold VAL
  rw [Al_all hd hR hf]
  constructor
  · rintro ⟨h1, h2⟩
    exact ⟨(alV_MJ hf).mp (fun p hp => (h1 p hp).2), fun r hr => h2 r hr (by omega)⟩
  · rintro ⟨h1, h2⟩
    exact ⟨fun p hp => ⟨hf p hp, (alV_MJ hf).mpr h1 p hp⟩, fun r hr _ => h2 r hr⟩
theorem MJ_cong {d : Nat} {f f' : Nat → Nat} (h : ∀ p, p < d ^ 3 → f p = f' p) : MJ d f ↔ MJ d f' := by
  unfold MJ
  constructor
  · intro q p hp
    rw [← h p hp]
    exact q p hp
  · intro q p hp
    rw [h p hp]
    exact q p hp
theorem voteX {d R : Nat} {pl tu : Nat → Nat} {g : xG} {a : xA} (hB : Bas d g a) (hR : RX d R pl tu g a) : ∃ x g' a', f_X3_firstVote g a = some (x, g', a') ∧ Sm [2, 3, 5] [8, 9, 15, 16, 17, 18] g a g' a' ∧ FirstR (W3 d R pl tu) (d ^ (d ^ 3)) lN x := by
  have hd := hB.1
  have hd0 : 0 < d := by omega
  have h27 := pw3 hd (w := 3) (by decide)
  have hR8 := hR.1
  have hRR : ∀ r, r < R → 1 ≤ pl r ∧ pl r + d ≤ 5 := fun r hr => ⟨(hR.2.2 r hr).2.2.1, (hR.2.2 r hr).2.2.2.1⟩
  obtain ⟨g1, a1, e1, e2, e3, e4, e5⟩ := beginS (w := 3) (lo := 100) (lv := -1) (by decide) (by decide) (by decide) hB hR
  have hB1 := Bas_sm hB e2
  obtain ⟨F, f1, f2⟩ := vt11 (d := d) (g := g1) (d ^ 3) 0 fu a1 (by omega) (fu_gt (by omega)) hB1 (fun q hq => by omega) (fun q _ hq => e5 q hq)
  have hS : SRF d 3 (SK d R 3 100 pl tu) (alV d) g1 (upA a1 16 F) := ⟨Bas_fr hB1 rfl (upA_n _ _ (by decide)) (upA_n _ _ (by decide)), e3, fun κ hκ => by rw [upA_n _ _ (by decide)]; exact e4 κ hκ, fun p hp => ⟨by rw [upA_s]; exact f2 p hp, alV_lt hd⟩⟩
  obtain ⟨b, a2, k1, k2, k3, k4⟩ := findX (by decide) hS
  have s2 : Sm [2, 3, 5] [8, 9, 15, 16, 17, 18] g a g1 a2 := Sm_tr (Sm_mo e2 (by decide) (by decide)) (Sm_tr (Sm_A Sm_rfl (by decide)) (Sm_mo k2 (by decide) (by decide)))
  have ee : f_X3_firstVote g a = (if (if b = true then (1 : Int32) else 0) = 0 then some ((-1), g1, a2) else Option.bind (f_X8_foundCode g1 a2) (fun u7 => some (u7, g1, a2))) := by
    unfold f_X3_firstVote
    rw [show f_X8_begin g a 3 (-1) = _ from e1, Option.bind_some]
    refine Eq.trans f1 ?_
    rw [k1, Option.bind_some]
  have dv : ∀ v, v < d ^ (d ^ 3) → (W3 d R pl tu v ↔ VAL d 3 (SK d R 3 100 pl tu) (alV d) (dg d v)) := fun v _ => (VAL_V hd hR8 hRR (fun p _ => dg_lt hd0 _ _)).symm
  cases hb : b with
  | false =>
    refine ⟨-1, g1, a2, ?_, s2, Or.inl ⟨rfl, fun v hv q => k3 hb _ ((dv v hv).mp q)⟩⟩
    rw [ee, hb, if_pos (by decide)]
  | true =>
    obtain ⟨y', l1, l2, l3⟩ := k4 hb
    have hyl : ∀ p, p < d ^ 3 → y' p < d := fun p hp => (l2.1 p hp).1
    have hlt := nm_lt (d := d) (f := y') (d ^ 3) hyl
    have heq : ∀ p, p < d ^ 3 → dg d (nm d y' (d ^ 3)) p = y' p := fun p hp => nm_dg hd0 (d ^ 3) hyl p hp
    refine ⟨lN (nm d y' (d ^ 3)), g1, a2, ?_, s2, Or.inr ⟨_, hlt, ?_, fun v' h q => ?_, rfl⟩⟩
    · rw [ee, hb, if_neg (by decide), foundX hd hB1.2.1 e3 h27 (fun p hp => ⟨l1 p hp, hyl p hp⟩), Option.bind_some]
    · obtain ⟨m1, m2⟩ := (VAL_V hd hR8 hRR hyl).mp l2
      exact ⟨(MJ_cong heq).mpr m1, (Kp_cong hd0 (fun p _ => dg_lt hd0 _ _) heq).mpr m2⟩
    · have hv' : v' < d ^ (d ^ 3) := by omega
      have := l3 _ ((dv v' hv').mp q)
      rw [dg_nm hd0 (d ^ 3) v' hv'] at this
      omega
/-! first: VOTE, the model. -/
def Frb (d p : Nat) : Bool := !(decide (dg d p 0 = dg d p 1)) && (!(decide (dg d p 1 = dg d p 2)) && !(decide (dg d p 0 = dg d p 2)))
def fcn (d : Nat) : Nat → Nat
  | 0 => 0
  | n + 1 => fcn d n + (if Frb d n then 1 else 0)
theorem fcn_1 {d n : Nat} (h : Frb d n = true) : fcn d (n + 1) = fcn d n + 1 := by
  show fcn d n + (if Frb d n then 1 else 0) = _
  rw [if_pos h]
theorem fcn_0 {d n : Nat} (h : Frb d n = false) : fcn d (n + 1) = fcn d n := by
  show fcn d n + (if Frb d n then 1 else 0) = _
  rw [h]
  rfl
theorem fcn_mono {d : Nat} : ∀ {m n : Nat}, m ≤ n → fcn d m ≤ fcn d n := fun {m n} h => by
  obtain ⟨k, rfl⟩ : ∃ k, n = m + k := ⟨n - m, by omega⟩
  clear h
  induction k with
  | zero => exact Nat.le_refl _
  | succ k ih =>
    have : fcn d (m + k) ≤ fcn d (m + (k + 1)) := by
      show fcn d (m + k) ≤ fcn d (m + k) + _
      omega
    omega
def TV (d k p : Nat) : Nat := if Frb d p then dg d k (fcn d p) else if dg d p 0 = dg d p 1 ∨ dg d p 0 = dg d p 2 then dg d p 0 else dg d p 1
theorem TV_lt {d k p : Nat} (hd : 0 < d) : TV d k p < d := by
  unfold TV
  split
  · exact dg_lt hd _ _
  · split
    · exact dg_lt hd _ _
    · exact dg_lt hd _ _
theorem TV_MJ {d k : Nat} : MJ d (TV d k) := by
  intro p hp
  constructor
  · intro q
    have hF : Frb d p = false := by
      unfold Frb
      rcases q with q | q
      · simp [q]
      · simp [q]
    unfold TV
    rw [hF, if_neg (by decide), if_pos q]
  · intro q1 q2
    have hF : Frb d p = false := by
      unfold Frb
      simp [q2]
    unfold TV
    rw [hF, if_neg (by decide), if_neg q1]
theorem tv4 {d k : Nat} {g : xG} (hd : d = 2 ∨ d = 3) (h0 : g 0 = nI d) (hk : k < 2 ^ 31) : ∀ (r p n : Nat) (a : xA), p + r = d ^ 3 → r < n →
    ∃ f, f_X12_triesVote_4 g n a (nI (k / d ^ fcn d p)) (nI p) = some (upA a 4 f) ∧ (∀ i, i < 162 + p → f i = a 4 i) ∧ ∀ q, p ≤ q → q < d ^ 3 → f (162 + q) = nI (TV d k q)
  | 0, p, n, a, hp, hn => by
    obtain ⟨n, rfl⟩ := pos_of hn
    have h27 := pw3 hd (w := 3) (by decide)
    refine ⟨a 4, ?_, fun _ _ => rfl, fun q h1 h2 => by omega⟩
    rw [e_X12_triesVote_4, show f_X12_power g a 3 = some (nI (d ^ 3)) from pwM (by decide) h0, Option.bind_some, if_pos (nI_le (by omega) (by omega)), upA_id]
  | r + 1, p, n, a, hp, hn => by
    obtain ⟨n, rfl⟩ := pos_of hn
    have hd0 : 0 < d := by omega
    have h27 := pw3 hd (w := 3) (by decide)
    have hkk : k / d ^ fcn d p < 2 ^ 31 := Nat.lt_of_le_of_lt (Nat.div_le_self ..) hk
    have l0 := dg_lt hd0 p 0
    have l1 := dg_lt hd0 p 1
    have l2 := dg_lt hd0 p 2
    have hz : nzB (nI d) = true := nzB_t hd0 (by omega)
    have q1 : p / d < 2 ^ 31 := Nat.lt_of_le_of_lt (Nat.div_le_self ..) (by omega)
    have d0 : p % d = dg d p 0 := by simp [dg]
    have d1 : p / d % d = dg d p 1 := by simp [dg]
    have d2 : p / d / d = dg d p 2 := dg2 (w := 0) hd (by omega)
    have step : ∀ k' : Nat, k' = k / d ^ fcn d (p + 1) → ∃ f, f_X12_triesVote_4 g n (upA a 4 (upd (a 4) (162 + p) (nI (TV d k p)))) (nI k') (nI (p + 1)) = some (upA a 4 f) ∧ (∀ i, i < 162 + p → f i = a 4 i) ∧ ∀ q, p ≤ q → q < d ^ 3 → f (162 + q) = nI (TV d k q) := fun k' ek => by
      obtain ⟨f, e1, e2, e3⟩ := tv4 hd h0 hk r (p + 1) n (upA a 4 (upd (a 4) (162 + p) (nI (TV d k p)))) (by omega) (by omega)
      refine ⟨f, ?_, fun i hi => ?_, fun q h1 h2 => ?_⟩
      · rw [ek, e1, upA_2]
      · rw [e2 i (by omega), upA_s, upd_n _ _ (by omega)]
      · by_cases hq : q = p
        · rw [hq, e2 _ (by omega), upA_s, upd_s]
        · exact e3 q (by omega) h2
    have no : Frb d p = false → ∃ f, f_X12_triesVote_73 g (f_X12_triesVote_4 g n) a (nI (k / d ^ fcn d p)) (nI p) (nI (dg d p 0)) (nI (dg d p 1)) (nI (dg d p 2)) 0 = some (upA a 4 f) ∧ (∀ i, i < 162 + p → f i = a 4 i) ∧ ∀ q, p ≤ q → q < d ^ 3 → f (162 + q) = nI (TV d k q) := fun hF => by
      have hs := step (k / d ^ fcn d p) (by rw [fcn_0 hF])
      unfold TV at hs
      rw [hF, if_neg (by decide)] at hs
      unfold f_X12_triesVote_73 f_X12_triesVote_119
      rw [show ((162 : Int32) + nI p) = nI (162 + p) from nI_add 162 p, ck_t (inB_t (by omega) (by decide)), ck_t (inB_t (by omega) (by decide)), ck_t (inB_t (by omega) (by decide)), nI_clamp (by omega), show nI p + 1 = nI (p + 1) from nI_1 p, if_pos rfl, if_pos rfl, if_pos rfl]
      by_cases e1 : dg d p 0 = dg d p 1
      · rw [if_pos (Or.inl e1)] at hs
        rw [if_pos (by rw [e1])]
        exact hs
      · rw [if_neg (fun h => e1 ((nI_eqs (by omega) (by omega)).mp h))]
        by_cases e2 : dg d p 0 = dg d p 2
        · rw [if_pos (Or.inr e2)] at hs
          rw [if_pos (by rw [e2])]
          exact hs
        · rw [if_neg (fun h => h.elim e1 e2)] at hs
          rw [if_neg (fun h => e2 ((nI_eqs (by omega) (by omega)).mp h))]
          exact hs
    rw [e_X12_triesVote_4, show f_X12_power g a 3 = some (nI (d ^ 3)) from pwM (by decide) h0, Option.bind_some, if_neg (nI_ge (by omega) (by omega)), h0, ck_t hz, ck_t hz, ck_t hz, ck_t hz, ck_t hz, pk_div (by omega) hd0 (by omega), pk_div q1 hd0 (by omega), rem_ _ d, rem_ _ d, d0, d1, d2]
    by_cases e1 : dg d p 0 = dg d p 1
    · rw [if_pos (by rw [e1])]
      exact no (by unfold Frb; simp [e1])
    rw [if_neg (fun h => e1 ((nI_eqs (by omega) (by omega)).mp h))]
    by_cases e2 : dg d p 1 = dg d p 2
    · rw [if_pos (by rw [e2])]
      exact no (by unfold Frb; simp [e2])
    rw [if_neg (fun h => e2 ((nI_eqs (by omega) (by omega)).mp h))]
    by_cases e3 : dg d p 0 = dg d p 2
    · rw [if_pos (by rw [e3])]
      exact no (by unfold Frb; simp [e3])
    rw [if_neg (fun h => e3 ((nI_eqs (by omega) (by omega)).mp h))]
    have hF : Frb d p = true := by
      unfold Frb
      simp [e1, e2, e3]
    have hs := step (k / d ^ fcn d p / d) (by rw [fcn_1 hF, dg_step])
    unfold TV at hs
    rw [hF, if_pos rfl] at hs
    unfold f_X12_triesVote_73 f_X12_triesVote_119
    rw [if_neg (show ¬ (1 : Int32) = 0 by decide), h0, ck_t hz, show ((162 : Int32) + nI p) = nI (162 + p) from nI_add 162 p, ck_t (inB_t (by omega) (by decide)), nI_clamp (by omega), show nI p + 1 = nI (p + 1) from nI_1 p, if_neg (show ¬ (1 : Int32) = 0 by decide), ck_t hz, pk_rem hkk hd0 (by omega), pk_div hkk hd0 (by omega)]
    exact hs
theorem triesV {d k : Nat} {g : xG} {a : xA} (hd : d = 2 ∨ d = 3) (h0 : g 0 = nI d) (hk : k < 2 ^ 31) : ∃ a', f_X12_triesVote g a (nI k) = some a' ∧ SmM g a g a' ∧ OpM d 6 3 (TV d k) a' := by
  have h27 := pw3 hd (w := 3) (by decide)
  obtain ⟨f, e1, e2, e3⟩ := tv4 hd h0 hk (d ^ 3) 0 fu a (by omega) (fu_gt (by omega))
  rw [show fcn d 0 = 0 from rfl, Nat.pow_zero, Nat.div_one] at e1
  exact ⟨upA a 4 f, e1, SmM_4 (fun i hi => e2 i (by omega)), Nat.le_refl _, by decide, by decide, fun p hp => ⟨by rw [upA_s]; exact e3 p (Nat.zero_le _) hp, TV_lt (by omega)⟩⟩
theorem fv18 {d R N : Nat} {pl tu : Nat → Nat} {g : xG} (hd : d = 2 ∨ d = 3) (h0 : g 0 = nI d) (hN : N ≤ 729) : ∀ (r c n : Nat) (a : xA), c + r = N → r < n → RM d R pl tu g a → (∀ c', c' < c → ¬ Kp d R pl tu 3 (TV d c')) →
    ∃ x a', f_X12_firstVote_18 g n a (nI N) (nI c) = some (x, a') ∧ SmM g a g a' ∧ FirstR (fun k => Kp d R pl tu 3 (TV d k)) N (fun k => lN (nm d (TV d k) (d ^ 3))) x
  | 0, c, n, a, hc, hn, hR, hno => by
    obtain ⟨n, rfl⟩ := pos_of hn
    refine ⟨-1, a, ?_, SmM_rfl, Or.inl ⟨rfl, fun v' h => hno v' (by omega)⟩⟩
    rw [e_X12_firstVote_18, if_pos (nI_le (by omega) (by omega))]
  | r + 1, c, n, a, hc, hn, hR, hno => by
    obtain ⟨n, rfl⟩ := pos_of hn
    obtain ⟨a1, e1, e2, e3⟩ := triesV (a := a) hd h0 (k := c) (by omega)
    obtain ⟨b, a2, e4, e5, e6⟩ := kaM hd h0 (RM_sm hR e2) e3
    have s2 : SmM g a g a2 := SmM_tr e2 (SmM_of e5)
    rw [e_X12_firstVote_18, if_neg (nI_ge (by omega) (by omega)), e1, Option.bind_some, show f_X12_keepsAll g a1 6 3 = _ from e4, Option.bind_some, show nI c + 1 = nI (c + 1) from nI_1 c]
    cases hb : b with
    | false =>
      obtain ⟨x, a3, k1, k2, k3⟩ := fv18 hd h0 hN r (c + 1) n a2 (by omega) (by omega) (RM_sm hR s2) (fun v' h => by
        by_cases he : v' = c
        · rw [he]
          intro q
          rw [e6.mpr q] at hb
          cases hb
        · exact hno v' (by omega))
      refine ⟨x, a3, ?_, SmM_tr s2 k2, k3⟩
      dsimp only
      rw [if_pos (by decide)]
      exact k1
    | true =>
      refine ⟨_, a2, ?_, s2, Or.inr ⟨c, by omega, e6.mp hb, hno, rfl⟩⟩
      dsimp only
      rw [if_neg (by decide), show f_X12_codeOf g a2 6 3 = _ from cmM (op := 6) (w := 3) hd h0 (OpM_sm e3 e5), Option.bind_some]
theorem tv_mono {d k k' : Nat} (hd : 0 < d) : ∀ p, (k % d ^ fcn d p < k' % d ^ fcn d p → nm d (TV d k) p < nm d (TV d k') p) ∧ (k % d ^ fcn d p = k' % d ^ fcn d p → nm d (TV d k) p = nm d (TV d k') p)
  | 0 => by
    refine ⟨fun h => ?_, fun _ => rfl⟩
    rw [show fcn d 0 = 0 from rfl, Nat.pow_zero, Nat.mod_one, Nat.mod_one] at h
    omega
  | p + 1 => by
    obtain ⟨h1, h2⟩ := tv_mono (k := k) (k' := k') hd p
    have n1 := nm_lt (d := d) (f := TV d k) p (fun _ _ => TV_lt hd)
    have n2 := nm_lt (d := d) (f := TV d k') p (fun _ _ => TV_lt hd)
    have hdp : 0 < d ^ p := Nat.pow_pos hd
    have hdf : 0 < d ^ fcn d p := Nat.pow_pos hd
    show (k % d ^ fcn d (p + 1) < k' % d ^ fcn d (p + 1) → nm d (TV d k) p + TV d k p * d ^ p < nm d (TV d k') p + TV d k' p * d ^ p) ∧ (k % d ^ fcn d (p + 1) = k' % d ^ fcn d (p + 1) → nm d (TV d k) p + TV d k p * d ^ p = nm d (TV d k') p + TV d k' p * d ^ p)
    cases hF : Frb d p with
    | false =>
      have e : TV d k p = TV d k' p := by
        unfold TV
        rw [hF]
        rfl
      rw [fcn_0 hF, e]
      exact ⟨fun h => by have := h1 h; omega, fun h => by rw [h2 h]⟩
    | true =>
      have e1 : TV d k p = dg d k (fcn d p) := by unfold TV; rw [hF, if_pos rfl]
      have e2 : TV d k' p = dg d k' (fcn d p) := by unfold TV; rw [hF, if_pos rfl]
      have m : ∀ x, x % d ^ (fcn d p + 1) = x % d ^ fcn d p + d ^ fcn d p * dg d x (fcn d p) := fun x => by
        unfold dg
        rw [Nat.pow_succ, Nat.mod_mul]
      rw [fcn_1 hF, m k, m k', e1, e2]
      have r1 := Nat.mod_lt k hdf
      have r2 := Nat.mod_lt k' hdf
      generalize k % d ^ fcn d p = α at *
      generalize k' % d ^ fcn d p = α' at *
      have key : ∀ {D D' : Nat}, D < D' → D * d ^ p + d ^ p ≤ D' * d ^ p ∧ d ^ fcn d p * D + d ^ fcn d p ≤ d ^ fcn d p * D' := fun {D D'} h => by
        have k1 : (D + 1) * d ^ p ≤ D' * d ^ p := Nat.mul_le_mul_right _ h
        have k2 : d ^ fcn d p * (D + 1) ≤ d ^ fcn d p * D' := Nat.mul_le_mul_left _ h
        rw [Nat.add_mul, Nat.one_mul] at k1
        rw [Nat.mul_add, Nat.mul_one] at k2
        exact ⟨k1, k2⟩
      rcases Nat.lt_trichotomy (dg d k (fcn d p)) (dg d k' (fcn d p)) with h | h | h
      · obtain ⟨k1, k2⟩ := key h
        exact ⟨fun _ => by omega, fun q => by omega⟩
      · rw [h]
        exact ⟨fun q => by have := h1 (by omega); omega, fun q => by rw [h2 (by omega)]⟩
      · obtain ⟨k1, k2⟩ := key h
        exact ⟨fun q => by omega, fun q => by omega⟩
/-- the number by which a MAJORITY is tried -/
def kk (d : Nat) (f : Nat → Nat) : Nat → Nat
  | 0 => 0
  | p + 1 => if Frb d p then kk d f p + d ^ fcn d p * f p else kk d f p
theorem kk_ok {d : Nat} {f : Nat → Nat} (hd : 0 < d) (hf : ∀ p, f p < d) : ∀ n, kk d f n < d ^ fcn d n ∧ ∀ p, p < n → Frb d p = true → dg d (kk d f n) (fcn d p) = f p
  | 0 => ⟨by show 0 < d ^ 0; rw [Nat.pow_zero]; decide, fun p h => by omega⟩
  | n + 1 => by
    obtain ⟨h1, h2⟩ := kk_ok hd hf n
    cases hF : Frb d n with
    | false =>
      have e : kk d f (n + 1) = kk d f n := by
        show (if Frb d n then _ else _) = _
        rw [hF, if_neg (by decide)]
      rw [e, fcn_0 hF]
      refine ⟨h1, fun p hp hq => ?_⟩
      by_cases he : p = n
      · rw [he, hF] at hq
        cases hq
      · exact h2 p (by omega) hq
    | true =>
      have e : kk d f (n + 1) = d ^ fcn d n * f n + kk d f n := by
        show (if Frb d n then _ else _) = _
        rw [hF, if_pos rfl, Nat.add_comm]
      rw [e, fcn_1 hF]
      have hfn := hf n
      refine ⟨?_, fun p hp hq => ?_⟩
      · have : d ^ fcn d n * (f n + 1) ≤ d ^ fcn d n * d := Nat.mul_le_mul_left _ hfn
        rw [Nat.mul_add, Nat.mul_one] at this
        rw [Nat.pow_succ]
        omega
      · by_cases he : p = n
        · rw [he, dg_hi hd h1 hfn]
        · have hlt : fcn d p < fcn d n := by
            have := fcn_mono (d := d) (show p + 1 ≤ n by omega)
            rw [fcn_1 hq] at this
            omega
          rw [dg_lo hd hlt]
          exact h2 p (by omega) hq
theorem voteM {d R : Nat} {pl tu : Nat → Nat} {g : xG} {a : xA} (hd : d = 2 ∨ d = 3) (h0 : g 0 = nI d) (hR : RM d R pl tu g a) : ∃ x a', f_X12_firstVote g a = some (x, a') ∧ SmM g a g a' ∧ FirstR (W3 d R pl tu) (d ^ (d ^ 3)) lN x := by
  have hd0 : 0 < d := by omega
  have hM : d ^ fcn d (d ^ 3) ≤ 729 ∧ f_X12_firstVote g a = f_X12_firstVote_18 g fu a (nI (d ^ fcn d (d ^ 3))) (nI 0) := by
    unfold f_X12_firstVote
    rw [h0]
    rcases hd with rfl | rfl
    · rw [show fcn 2 (2 ^ 3) = 0 by decide +kernel, if_pos (show nI 2 = 2 from rfl)]
      exact ⟨by decide, rfl⟩
    · rw [show fcn 3 (3 ^ 3) = 6 by decide +kernel, if_neg (show ¬ nI 3 = 2 by decide)]
      exact ⟨by decide, rfl⟩
  obtain ⟨x, a', e1, e2, e3⟩ := fv18 (pl := pl) (tu := tu) (R := R) hd h0 hM.1 (d ^ fcn d (d ^ 3)) 0 fu a (by omega) (fu_gt (by have := hM.1; omega)) hR (fun c h => by omega)
  refine ⟨x, a', by rw [hM.2]; exact e1, e2, FR_map e3 (ph := fun k => nm d (TV d k) (d ^ 3)) (fun _ _ => rfl) (fun c _ => nm_lt _ (fun _ _ => TV_lt hd0)) (fun c c' h1 h2 => (tv_mono hd0 (d ^ 3)).1 (by rw [Nat.mod_eq_of_lt h2, Nat.mod_eq_of_lt (by omega)]; exact h1)) (fun k hk => ?_)⟩
  have heq : ∀ c p, p < d ^ 3 → dg d (nm d (TV d c) (d ^ 3)) p = TV d c p := fun c p hp => nm_dg hd0 (d ^ 3) (fun _ _ => TV_lt hd0) p hp
  constructor
  · rintro ⟨m1, m2⟩
    obtain ⟨k1, k2⟩ := kk_ok (f := dg d k) hd0 (fun p => dg_lt hd0 _ _) (d ^ 3)
    have hT : ∀ p, p < d ^ 3 → TV d (kk d (dg d k) (d ^ 3)) p = dg d k p := fun p hp => by
      unfold TV
      cases hF : Frb d p with
      | true => rw [if_pos rfl]; exact k2 p hp hF
      | false =>
        rw [if_neg (by decide)]
        by_cases q1 : dg d p 0 = dg d p 1 ∨ dg d p 0 = dg d p 2
        · rw [if_pos q1]
          exact ((m1 p hp).1 q1).symm
        · rw [if_neg q1]
          have q2 : dg d p 1 = dg d p 2 := by
            refine Classical.byContradiction fun q2 => ?_
            have : Frb d p = true := by
              have u1 : ¬ dg d p 0 = dg d p 1 := fun h => q1 (Or.inl h)
              have u2 : ¬ dg d p 0 = dg d p 2 := fun h => q1 (Or.inr h)
              unfold Frb
              simp [u1, u2, q2]
            rw [hF] at this
            cases this
          exact ((m1 p hp).2 q1 q2).symm
    refine ⟨kk d (dg d k) (d ^ 3), k1, ?_, (Kp_cong hd0 (fun p _ => TV_lt hd0) hT).mpr m2⟩
    show k = nm d (TV d (kk d (dg d k) (d ^ 3))) (d ^ 3)
    rw [nm_cong (fun p hp => hT p hp), dg_nm hd0 (d ^ 3) k hk]
  · rintro ⟨c, c1, rfl, c3⟩
    exact ⟨(MJ_cong (fun p hp => (heq c p hp))).mpr TV_MJ, (Kp_cong hd0 (fun p _ => dg_lt hd0 _ _) (heq c)).mpr c3⟩
