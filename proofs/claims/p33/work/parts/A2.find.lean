/-! The search: the order of the points, and what is found. -/
def Bd (al : Nat → Nat) (p : Nat) : Prop := pc (al p) 31 ≤ 1
theorem Bd_one : ∀ x, x < 8 → ∀ u, u < 3 → ∀ v, v < 3 → ¬ (pc x 31 ≤ 1 ∧ x.testBit u = true ∧ x.testBit v = true ∧ ¬ u = v) := by decide +kernel
theorem Bd_un {al : Nat → Nat} {p u v : Nat} (h : Bd al p) (hl : al p < 8) (h1 : (al p).testBit u = true) (h2 : (al p).testBit v = true) : u = v :=
  Classical.byContradiction fun hn => Bd_one (al p) hl u (bit_lt (n := 3) hl h1) v (bit_lt (n := 3) hl h2) ⟨h, h1, h2, hn⟩
theorem od10 {N β : Nat} {al : Nat → Nat} {g : xG} (hβ : β < 2) (hN : N ≤ 27) : ∀ (p n : Nat) (a : xA) (f0 : Nat), p < n → p ≤ N → f0 + cb (fun p => Bd al p ↔ β = 1) p ≤ 27 → (∀ p, p < N → a 16 p = nI (al p) ∧ al p < 8) →
    ∃ (F : Nat → Int32) (o : Nat → Nat), f_X8_orderPoints_10 g n a (nI β) (nI f0) (nI p + -nI 1) = some (nI (f0 + cb (fun p => Bd al p ↔ β = 1) p), upA a 17 F) ∧ (∀ i, i < f0 → F i = a 17 i) ∧ (∀ i, f0 ≤ i → i < f0 + cb (fun p => Bd al p ↔ β = 1) p → F i = nI (o i) ∧ o i < p ∧ (Bd al (o i) ↔ β = 1)) ∧ (∀ q, q < p → (Bd al q ↔ β = 1) → ∃ i, f0 ≤ i ∧ i < f0 + cb (fun p => Bd al p ↔ β = 1) p ∧ o i = q) ∧ ∀ i j, f0 ≤ i → i < j → j < f0 + cb (fun p => Bd al p ↔ β = 1) p → o j < o i
  | 0, n, a, f0, hn, hp, hc, ha => by
    obtain ⟨n, rfl⟩ := pos_of hn
    refine ⟨a 17, fun _ => 0, ?_, fun _ _ => rfl, fun i h1 h2 => ?_, fun q h => by omega, fun i j h1 h2 h3 => ?_⟩
    · rw [e_X8_orderPoints_10, if_pos (show nI 0 + -nI 1 < 0 from m1z), upA_id]
      rfl
    · exact absurd h2 (by show ¬ i < f0 + 0; omega)
    · exact absurd h3 (by show ¬ j < f0 + 0; omega)
  | p + 1, n, a, f0, hn, hp, hc, ha => by
    obtain ⟨n, rfl⟩ := pos_of hn
    obtain ⟨a1, a2⟩ := ha p (by omega)
    have hpl := pc_le (al p) 31
    have e1 : f_X8_orderPoints_10 g (n + 1) a (nI β) (nI f0) (nI (p + 1) + -nI 1) = f_X8_orderPoints_36 g (f_X8_orderPoints_10 g n) a (nI β) (nI f0) (nI p) (if pc (al p) 31 ≤ 1 then 1 else 0) := by
      rw [e_X8_orderPoints_10, m1p, if_neg (nI_pos (by omega)), at_in (by omega) (by decide), a1, bc9 (by omega)]
      by_cases h : pc (al p) 31 ≤ 1
      · rw [if_pos h, if_neg (show ¬ (1 : Int32) < nI (pc (al p) 31) from nI_nlt (a := 1) h (by decide))]
      · rw [if_neg h, if_pos (show (1 : Int32) < nI (pc (al p) 31) from nI_lt (a := 1) (by omega) (by omega))]
    rw [e1]
    unfold f_X8_orderPoints_36
    have hsel : ((if pc (al p) 31 ≤ 1 then (1 : Int32) else 0) = nI β) ↔ (Bd al p ↔ β = 1) := by
      refine eq_comm.trans ?_
      unfold Bd
      rcases (by omega : β = 0 ∨ β = 1) with rfl | rfl
      · by_cases h : pc (al p) 31 ≤ 1
        · rw [if_pos h]
          simp [h]
          decide
        · rw [if_neg h]
          simp [h]
          rfl
      · by_cases h : pc (al p) 31 ≤ 1
        · rw [if_pos h]
          simp [h]
          rfl
        · rw [if_neg h]
          simp [h]
          decide
    by_cases hs : (Bd al p ↔ β = 1)
    · rw [cb_1 (P := fun p => Bd al p ↔ β = 1) hs] at hc ⊢
      rw [if_pos (hsel.mpr hs), put_in (by omega) (by decide), show nI f0 + 1 = nI (f0 + 1) from nI_1 f0]
      obtain ⟨F, o, q1, q2, q3, q4, q5⟩ := od10 (al := al) (g := g) hβ hN p n (upA a 17 (upd (a 17) f0 (nI p))) (f0 + 1) (by omega) (by omega) (by omega) (fun p hp => by rw [upA_n _ _ (by decide)]; exact ha p hp)
      rw [upA_2] at q1
      refine ⟨F, fun i => if i = f0 then p else o i, ?_, fun i hi => ?_, fun i h1 h2 => ?_, fun q hq h => ?_, fun i j h1 h2 h3 => ?_⟩
      · refine Eq.trans q1 ?_
        rw [show f0 + 1 + cb (fun p => Bd al p ↔ β = 1) p = f0 + (cb (fun p => Bd al p ↔ β = 1) p + 1) by omega]
      · rw [q2 i (by omega), upA_s, upd_n _ _ (by omega)]
      · dsimp only
        by_cases he : i = f0
        · rw [if_pos he, he, q2 f0 (by omega), upA_s, upd_s]
          exact ⟨rfl, by omega, hs⟩
        · rw [if_neg he]
          obtain ⟨k1, k2, k3⟩ := q3 i (by omega) (by omega)
          exact ⟨k1, by omega, k3⟩
      · dsimp only
        by_cases he : q = p
        · exact ⟨f0, by omega, by omega, by rw [if_pos rfl, he]⟩
        · obtain ⟨i, k1, k2, k3⟩ := q4 q (by omega) h
          exact ⟨i, by omega, by omega, by rw [if_neg (by omega), k3]⟩
      · dsimp only
        rw [if_neg (show ¬ j = f0 by omega)]
        by_cases he : i = f0
        · rw [if_pos he]
          exact (q3 j (by omega) (by omega)).2.1
        · rw [if_neg he]
          exact q5 i j (by omega) h2 (by omega)
    · rw [cb_0 (P := fun p => Bd al p ↔ β = 1) hs] at hc ⊢
      rw [if_neg (fun e => hs (hsel.mp e))]
      obtain ⟨F, o, q1, q2, q3, q4, q5⟩ := od10 (al := al) (g := g) hβ hN p n a f0 (by omega) (by omega) hc ha
      refine ⟨F, o, q1, q2, fun i h1 h2 => ?_, fun q hq h => ?_, q5⟩
      · obtain ⟨k1, k2, k3⟩ := q3 i h1 h2
        exact ⟨k1, by omega, k3⟩
      · by_cases he : q = p
        · exact absurd (he ▸ h) hs
        · exact q4 q (by omega) h
theorem cb_compl (P : Nat → Prop) : ∀ n, cb (fun p => P p ↔ 1 = 1) n + cb (fun p => P p ↔ 0 = 1) n = n
  | 0 => rfl
  | n + 1 => by
    have h := cb_compl P n
    by_cases hp : P n
    · rw [cb_1 (P := fun p => P p ↔ 1 = 1) (by simp [hp]), cb_0 (P := fun p => P p ↔ 0 = 1) (by simp [hp])]
      omega
    · rw [cb_0 (P := fun p => P p ↔ 1 = 1) (by simp [hp]), cb_1 (P := fun p => P p ↔ 0 = 1) (by simp [hp])]
      omega
theorem nm_lt2 {d p : Nat} {T T' : Nat → Nat} : ∀ N, (∀ q, q < N → T q < d ∧ T' q < d) → p < N → T p < T' p → (∀ q, p < q → q < N → T q = T' q) → nm d T N < nm d T' N
  | 0, _, h, _, _ => by omega
  | N + 1, hl, hp, h, he => by
    show nm d T N + T N * d ^ N < nm d T' N + T' N * d ^ N
    have h1 := nm_lt (d := d) (f := T) N (fun k hk => (hl k (by omega)).1)
    by_cases hpn : p = N
    · subst hpn
      have h2 : (T p + 1) * d ^ p ≤ T' p * d ^ p := Nat.mul_le_mul_right _ h
      rw [Nat.add_mul, Nat.one_mul] at h2
      omega
    · have := nm_lt2 N (fun q hq => hl q (by omega)) (by omega) h (fun q h1 h2 => he q h1 (by omega))
      rw [he N (by omega) (by omega)]
      omega
/-- what finding needs -/
def SRF (d w : Nat) (S : Nat → Nat → Prop) (al : Nat → Nat) (g : xG) (a : xA) : Prop := Bas d g a ∧ g 5 = nI (d ^ w) ∧ (∀ κ, κ < 729 → Fit (a 15 κ) (S κ) (d ^ (5 - d))) ∧ ∀ p, p < d ^ w → a 16 p = nI (al p) ∧ al p < 8
theorem SRF_17 {d w : Nat} {S : Nat → Nat → Prop} {al : Nat → Nat} {g : xG} {a : xA} (h : SRF d w S al g a) {f : Nat → Int32} : SRF d w S al g (upA a 17 f) := by
  obtain ⟨h1, h2, h3, h4⟩ := h
  refine ⟨Bas_fr h1 rfl (upA_n _ _ (by decide)) (upA_n _ _ (by decide)), h2, ?_, ?_⟩
  · rw [upA_n _ _ (by decide)]; exact h3
  · rw [upA_n _ _ (by decide)]; exact h4
theorem findX {d w : Nat} {S : Nat → Nat → Prop} {al : Nat → Nat} {g : xG} {a : xA} (hw : w ≤ 3) (hS : SRF d w S al g a) :
    ∃ (b : Bool) (a' : xA), f_X8_find g a = some (if b then 1 else 0, a') ∧ Sm [] [17, 18] g a g a' ∧ (b = false → ∀ f, ¬ VAL d w S al f) ∧ (b = true → ∃ y', (∀ p, p < d ^ w → a' 18 p = nI (y' p)) ∧ VAL d w S al y' ∧ ∀ f, VAL d w S al f → nm d y' (d ^ w) ≤ nm d f (d ^ w)) := by
  have hd := hS.1.1
  have h27 := pw3 hd hw
  have hcc := cb_compl (Bd al) (d ^ w)
  obtain ⟨F1, o1, a1, b1, c1, d1, e1⟩ := od10 (al := al) (g := g) (β := 1) (by decide) h27 (d ^ w) fu a 0 (fu_gt (by omega)) (Nat.le_refl _) (by omega) hS.2.2.2
  obtain ⟨F2, o2, a2, b2, c2, d2, e2⟩ := od10 (al := al) (g := g) (β := 0) (by decide) h27 (d ^ w) fu (upA a 17 F1) (0 + cb (fun p => Bd al p ↔ 1 = 1) (d ^ w)) (fu_gt (by omega)) (Nat.le_refl _) (by omega) (fun p hp => by rw [upA_n _ _ (by decide)]; exact hS.2.2.2 p hp)
  rw [upA_2] at a2
  rw [Nat.zero_add] at a1 a2 b2 c2 d2 e2 c1 d1 e1
  obtain ⟨m, hm⟩ : ∃ m, m = cb (fun p => Bd al p ↔ 1 = 1) (d ^ w) := ⟨_, rfl⟩
  rw [← hm] at a1 a2 b2 c1 c2 d1 d2 e1 e2 hcc
  rw [hcc] at a2 c2 d2 e2
  obtain ⟨od, hod⟩ : ∃ od : Nat → Nat, od = fun i => if i < m then o1 i else o2 i := ⟨_, rfl⟩
  have odl : ∀ i, i < m → od i = o1 i := fun i hi => by rw [hod]; exact if_pos hi
  have odr : ∀ i, m ≤ i → od i = o2 i := fun i hi => by rw [hod]; exact if_neg (by omega)
  have bdl : ∀ i, i < m → Bd al (od i) := fun i hi => by rw [odl i hi]; exact (c1 i (Nat.zero_le _) hi).2.2.mpr rfl
  have bdr : ∀ i, m ≤ i → i < d ^ w → ¬ Bd al (od i) := fun i h1 h2 q => by
    rw [odr i h1] at q
    exact absurd ((c2 i h1 h2).2.2.mp q) (by decide)
  have ho : ∀ i, i < d ^ w → F2 i = nI (od i) ∧ od i < d ^ w := fun i hi => by
    by_cases h : i < m
    · rw [odl i h, b2 i h, upA_s]
      exact ⟨(c1 i (Nat.zero_le _) h).1, (c1 i (Nat.zero_le _) h).2.1⟩
    · rw [odr i (by omega)]
      exact ⟨(c2 i (by omega) hi).1, (c2 i (by omega) hi).2.1⟩
  have hsur : ∀ p, p < d ^ w → ∃ i, i < d ^ w ∧ od i = p := fun p hp => by
    by_cases h : Bd al p
    · obtain ⟨i, _, i2, i3⟩ := d1 p hp (by simp [h])
      exact ⟨i, by omega, by rw [odl i i2, i3]⟩
    · obtain ⟨i, i1, i2, i3⟩ := d2 p hp (by simp [h])
      exact ⟨i, i2, by rw [odr i i1, i3]⟩
  have desc : ∀ i j, m ≤ i → i < j → j < d ^ w → od j < od i := fun i j h1 h2 h3 => by
    rw [odr i h1, odr j (by omega)]
    exact e2 i j h1 h2 h3
  have hinj : ∀ i j, i < j → j < d ^ w → od i ≠ od j := fun i j h1 h2 e => by
    by_cases h : j < m
    · have := e1 i j (Nat.zero_le _) h1 h
      rw [odl i (by omega), odl j h] at e
      omega
    · by_cases h' : i < m
      · have q1 := bdl i h'
        rw [e] at q1
        exact bdr j (by omega) h2 q1
      · have := desc i j (by omega) h1 h2
        omega
  have hS2 : SRH d w S al od g (upA a 17 F2) := ⟨(SRF_17 hS).1, hS.2.1, (SRF_17 hS).2.2.1, (SRF_17 hS).2.2.2, fun i hi => by rw [upA_s]; exact ho i hi⟩
  obtain ⟨b, f, k1, k2, k3, k4⟩ := icX (S := S) (al := al) (g := g) hw hinj hsur hd (d ^ w) 0 30 (by omega) (by omega) (upA a 17 F2) (fun _ => 0) hS2 (fun i hi => by omega) (fun i1 i2 i3 h => by omega)
  refine ⟨b, upA (upA a 17 F2) 18 f, ?_, Sm_A (Sm_A Sm_rfl (by decide)) (by decide), fun q f hf => k3 q f hf (fun i hi => by omega), fun q => ?_⟩
  · unfold f_X8_find f_X8_orderPoints
    rw [hS.2.1, show nI (d ^ w) - 1 = nI (d ^ w) + -nI 1 from m1s _]
    rw [show f_X8_orderPoints_10 g fu a 1 0 (nI (d ^ w) + -nI 1) = _ from a1, Option.bind_some]
    rw [show f_X8_orderPoints_10 g fu (upA a 17 F1) 0 (nI m) (nI (d ^ w) + -nI 1) = _ from a2, Option.bind_some]
    have hbo : boB (if b = true then (1 : Int32) else 0) = true := by cases b <;> decide
    rw [show f_X8_isCompleted 30 g (upA a 17 F2) 0 = _ from k1, Option.bind_some, ck_t hbo]
  · obtain ⟨y', l1, l2, _, l4⟩ := k4 q
    refine ⟨y', fun p hp => by rw [upA_s]; exact l1 p hp, l2, fun f hf => ?_⟩
    rcases l4 f hf (fun i hi => by omega) with h | ⟨i, i1, i2, i3⟩
    · refine Nat.le_of_eq (nm_cong fun p hp => ?_)
      obtain ⟨i, h1, h2⟩ := hsur p hp
      rw [← h2]
      exact (h i h1).symm
    · have un : ∀ p, p < d ^ w → Bd al p → f p = y' p := fun p hp hb => Bd_un hb (hS.2.2.2 p hp).2 (hf.1 p hp).2 (l2.1 p hp).2
      have hnb : ¬ Bd al (od i) := fun hb => by
        have := un _ (ho i i1).2 hb
        omega
      have him : m ≤ i := by
        rcases Nat.lt_or_ge i m with h | h
        · exact absurd (bdl i h) hnb
        · exact h
      refine Nat.le_of_lt (nm_lt2 (p := od i) (d ^ w) (fun q hq => ⟨(l2.1 q hq).1, (hf.1 q hq).1⟩) (ho i i1).2 i3 (fun q q1 q2 => ?_))
      by_cases hb : Bd al q
      · exact (un q q2 hb).symm
      · obtain ⟨j, h1, h2⟩ := hsur q q2
        rcases Nat.lt_trichotomy j i with h3 | h3 | h3
        · rw [← h2]
          exact (i2 j h3).symm
        · rw [h3] at h2
          omega
        · have := desc i j him h3 h1
          omega
theorem fo9 {d N : Nat} {T : Nat → Nat} {g : xG} {a : xA} (hd : d = 2 ∨ d = 3) (h0 : g 0 = nI d) (hN : N ≤ 27) (hT : ∀ p, p < N → a 18 p = nI (T p) ∧ T p < d) : ∀ (p r n : Nat), p + r = N → p < n →
    f_X8_foundCode_9 g a n (lN (nm d (fun q => T (p + q)) r)) (nI p + -nI 1) = some (lN (nm d T N))
  | 0, r, n, hp, hn => by
    obtain ⟨n, rfl⟩ := pos_of hn
    have e : r = N := by omega
    subst e
    rw [e_X8_foundCode_9, if_pos (show nI 0 + -nI 1 < 0 from m1z), hn_0 d T]
  | p + 1, r, n, hp, hn => by
    obtain ⟨n, rfl⟩ := pos_of hn
    obtain ⟨t1, t2⟩ := hT p (by omega)
    rw [e_X8_foundCode_9, m1p, if_neg (nI_pos (by omega)), h0, at_in (by omega) (by decide), t1, nI_l (by omega), nI_l (by omega), lN_mul, lN_add, hn_sh d T]
    exact fo9 hd h0 hN hT p (r + 1) n (by omega) (by omega)
theorem foundX {d N : Nat} {T : Nat → Nat} {g : xG} {a : xA} (hd : d = 2 ∨ d = 3) (h0 : g 0 = nI d) (h5 : g 5 = nI N) (hN : N ≤ 27) (hT : ∀ p, p < N → a 18 p = nI (T p) ∧ T p < d) : f_X8_foundCode g a = some (lN (nm d T N)) := by
  have := fo9 hd h0 hN hT N 0 fu (by omega) (fu_gt (by omega))
  unfold f_X8_foundCode
  rw [show nm d (fun q => T (N + q)) 0 = 0 from rfl, show lN 0 = 0 from rfl] at this
  rw [h5, z1, m1s]
  exact this
