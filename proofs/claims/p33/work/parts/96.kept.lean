/-! kept. -/
theorem ksn0 : ∀ v : Int32, v = nI 1 ∨ v = nI 2 ∨ (¬ v = 1 ∧ ¬ v = 2 ∧ (v < nI 1 ∨ nI 2 < v)) := fun v => by
  rcases tri v (lo := 1) (hi := 2) (by decide) (by decide) with q | q | ⟨j, q1, q2, rfl⟩
  · refine Or.inr (Or.inr ⟨fun e => ?_, fun e => ?_, Or.inl q⟩)
    · rw [e] at q; revert q; decide
    · rw [e] at q; revert q; decide
  · refine Or.inr (Or.inr ⟨fun e => ?_, fun e => ?_, Or.inr q⟩)
    · rw [e] at q; revert q; decide
    · rw [e] at q; revert q; decide
  · rcases (by omega : j = 1 ∨ j = 2) with rfl | rfl
    · exact Or.inl rfl
    · exact Or.inr (Or.inl rfl)
/-- what all operations make of a set -/
noncomputable def imA (d K : Nat) (ar : Nat → Nat) (an : Nat → Nat → Nat) (n0 s : Nat) : Nat := setOf (fun c => ∃ k, k < K ∧ Img d (ar k) (an k) n0 s c) (d ^ n0)
def OKs (d K : Nat) (ar : Nat → Nat) (an : Nat → Nat → Nat) (g : xG) (a : xA) : Prop := K ≤ 6 ∧ g 4 = nI K ∧ ∀ k, k < K → Opr d k (ar k) (an k) g a
theorem OKs_sm {d K : Nat} {ar : Nat → Nat} {an : Nat → Nat → Nat} {P Q : List Nat} {g g' : xG} {a a' : xA} (h : OKs d K ar an g a) (s : Sm P Q g a g' a') (h4 : ¬ 4 ∈ P := by decide) (h0 : ∀ i ∈ P, i < 15 := by decide) (h2 : ∀ i ∈ Q, i < 47 := by decide) : OKs d K ar an g' a' :=
  ⟨h.1, (s.1 4 h4).trans h.2.1, fun k hk => Opr_sm (h.2.2 k hk) s h0 h2⟩
theorem imA_bit {d K : Nat} {ar : Nat → Nat} {an : Nat → Nat → Nat} {n0 s : Nat} {g : xG} {a : xA} (hd : 0 < d) (h : OKs d K ar an g a) (c : Nat) : (imA d K ar an n0 s).testBit c = true ↔ ∃ k, k < K ∧ Img d (ar k) (an k) n0 s c :=
  setOf_bit (fun c ⟨k, hk, q⟩ => Img_lt hd (fun p hp => ((h.2.2 k hk).2.2.2.2 p hp).2) q) c
theorem imA_lt (d K : Nat) (ar : Nat → Nat) (an : Nat → Nat → Nat) (n0 s : Nat) : imA d K ar an n0 s < 2 ^ (d ^ n0) := setOf_lt _ _
theorem ia5 {d K n0 s : Nat} {ar : Nat → Nat} {an : Nat → Nat → Nat} (hn0 : n0 ≤ 3) (hs : s < 2 ^ (d ^ n0)) :
    ∀ (r k n acc : Nat) (g : xG) (a : xA), k + r = K → r < n → Bas d g a → OKs d K ar an g a → acc < 2 ^ (d ^ n0) → (∀ c, acc.testBit c = true ↔ ∃ k', k' < k ∧ Img d (ar k') (an k') n0 s c) →
    ∃ g' a', f_X6_imagesOfAll_5 n g a (nI n0) (nI s) (nI acc) (nI k) = some (nI (imA d K ar an n0 s), g', a') ∧ Sm [2, 3] [8, 9] g a g' a'
  | 0, k, n, acc, g, a, hk, hn, hB, hO, ha, h => by
    obtain ⟨n, rfl⟩ := pos_of hn
    have hd := hB.1
    have hK := hO.1
    have e : k = K := by omega
    subst e
    have : acc = imA d k ar an n0 s := set_ext fun i => (h i).trans (imA_bit (by omega) hO i).symm
    refine ⟨g, a, ?_, Sm_rfl⟩
    rw [e_X6_imagesOfAll_5, hO.2.1, if_pos (nI_le (Nat.le_refl _) (by omega)), this]
  | r + 1, k, n, acc, g, a, hk, hn, hB, hO, ha, h => by
    obtain ⟨n, rfl⟩ := pos_of hn
    have hd := hB.1
    have hK := hO.1
    have hkK : k < K := by omega
    obtain ⟨g1, a1, e1, e2⟩ := images_i hB (hO.2.2 k hkK) hn0 hs
    obtain ⟨g2, a2, e3, e4⟩ := ia5 hn0 hs r (k + 1) n (acc ||| im d (ar k) (an k) n0 s) g1 a1 (by omega) (by omega) (Bas_sm hB e2) (OKs_sm hO e2) (Nat.or_lt_two_pow ha (im_lt ..)) (fun c => by
      rw [Nat.testBit_or, Bool.or_eq_true, h c, im_bit (by omega) (fun p hp => ((hO.2.2 k hkK).2.2.2.2 p hp).2)]
      constructor
      · rintro (⟨k', q1, q2⟩ | q)
        · exact ⟨k', by omega, q2⟩
        · exact ⟨k, by omega, q⟩
      · rintro ⟨k', q1, q2⟩
        by_cases he : k' = k
        · exact Or.inr (he ▸ q2)
        · exact Or.inl ⟨k', by omega, q2⟩)
    refine ⟨g2, a2, ?_, Sm_tr e2 e4⟩
    rw [e_X6_imagesOfAll_5, hO.2.1, if_neg (nI_ge hkK (by omega)), getF_1 hkK hK, om_s, e1, Option.bind_some]
    dsimp only
    rw [nI_or, show nI k + 1 = nI (k + 1) from nI_1 k]
    exact e3
theorem sub_le {x y : Nat} (h : ∀ i, x.testBit i = true → y.testBit i = true) : x ≤ y := by
  have e : y &&& x = x := set_ext fun i => by
    rw [and_bit]
    exact ⟨fun q => q.2, fun q => ⟨h i q, q⟩⟩
  rw [← e]
  exact Nat.and_le_left
theorem bd_lt {s t : Nat} (h : s.testBit t = true) : bdiff s (2 ^ t) < s := by
  have h1 : bdiff s (2 ^ t) ≤ s := sub_le fun i hi => by
    rw [bdiff_bit, Bool.and_eq_true] at hi
    exact hi.1
  have h2 : bdiff s (2 ^ t) ≠ s := fun e => by
    have h3 : (bdiff s (2 ^ t)).testBit t = false := by
      rw [bdiff_bit, Nat.testBit_two_pow_self]
      simp
    rw [e, h] at h3
    cases h3
  omega
theorem bd_one {s t i : Nat} : (bdiff s (2 ^ t)).testBit i = true ↔ s.testBit i = true ∧ i ≠ t := by
  rw [bdiff_bit, Nat.testBit_two_pow, Bool.and_eq_true]
  constructor
  · rintro ⟨q1, q2⟩
    refine ⟨q1, fun e => ?_⟩
    rw [e] at q2
    simp at q2
  · rintro ⟨q1, q2⟩
    have h3 : ¬ t = i := fun e => q2 e.symm
    exact ⟨q1, by simp [h3]⟩
/-- more bits than asked: one of them is none of three -/
theorem pc_three {s n : Nat} (h : 3 < pc s n) (x y z : Nat) : ∃ t, t < n ∧ s.testBit t = true ∧ t ≠ x ∧ t ≠ y ∧ t ≠ z := by
  refine Classical.byContradiction fun hn => ?_
  have key : ∀ m, m ≤ n → pc s m ≤ (if x < m then 1 else 0) + (if y < m then 1 else 0) + (if z < m then 1 else 0) := by
    intro m
    induction m with
    | zero =>
      intro _
      exact Nat.zero_le _
    | succ m ih =>
      intro hm
      have h1 := ih (by omega)
      show pc s m + (if s.testBit m then 1 else 0) ≤ _
      by_cases hb : s.testBit m = true
      · have h2 : m = x ∨ m = y ∨ m = z := by
          refine Classical.byContradiction fun h3 => hn ⟨m, by omega, hb, ?_, ?_, ?_⟩
          · exact fun e => h3 (Or.inl e)
          · exact fun e => h3 (Or.inr (Or.inl e))
          · exact fun e => h3 (Or.inr (Or.inr e))
        rw [if_pos hb]
        split at h1 <;> split at h1 <;> split at h1 <;> split <;> split <;> split <;> omega
      · rw [if_neg hb]
        split at h1 <;> split at h1 <;> split at h1 <;> split <;> split <;> split <;> omega
  have := key n (Nat.le_refl _)
  split at this <;> split at this <;> split at this <;> omega
theorem mp4 {d K n0 s : Nat} {ar : Nat → Nat} {an : Nat → Nat → Nat} {g : xG} {a : xA} (hd : d = 2 ∨ d = 3) (hO : OKs d K ar an g a) (hn9 : d ^ n0 ≤ 9) (hs : s < 2 ^ (d ^ n0)) (hm : ∀ s', s' < s → a 12 s' = nI (imA d K ar an n0 s')) :
    ∀ (r t n acc : Nat), t + r = 9 → r < n → acc < 2 ^ 9 → (∀ c, acc.testBit c = true ↔ ∃ t', t' < t ∧ s.testBit t' = true ∧ (imA d K ar an n0 (bdiff s (2 ^ t'))).testBit c = true) →
    ∃ x, f_X6_madeOfParts_4 g a n (nI s) (nI acc) (nI t) = some (nI x) ∧ x < 2 ^ 9 ∧ ∀ c, x.testBit c = true ↔ ∃ t', s.testBit t' = true ∧ (imA d K ar an n0 (bdiff s (2 ^ t'))).testBit c = true
  | 0, t, n, acc, ht, hn, ha, h => by
    obtain ⟨n, rfl⟩ := pos_of hn
    refine ⟨acc, ?_, ha, fun c => (h c).trans ⟨fun ⟨t', _, q⟩ => ⟨t', q⟩, fun ⟨t', q⟩ => ⟨t', ?_, q⟩⟩⟩
    · rw [e_X6_madeOfParts_4, if_pos (show (9 : Int32) ≤ nI t from nI_le (a := 9) (by omega) (by omega))]
    · have := bit_lt hs q.1
      omega
  | r + 1, t, n, acc, ht, hn, ha, h => by
    obtain ⟨n, rfl⟩ := pos_of hn
    have hs9 : s < 2 ^ 9 := Nat.lt_of_lt_of_le hs (Nat.pow_le_pow_right (by decide) hn9)
    rw [e_X6_madeOfParts_4, if_neg (show ¬ (9 : Int32) ≤ nI t from nI_ge (a := t) (b := 9) (by omega) (by decide)), isIn_nI (by omega) (by omega), show nI t + 1 = nI (t + 1) from nI_1 t]
    cases hb : s.testBit t with
    | false =>
      rw [if_pos (by decide)]
      refine mp4 hd hO hn9 hs hm r (t + 1) n acc (by omega) (by omega) ha (fun c => (h c).trans ⟨fun ⟨t', q1, q⟩ => ⟨t', by omega, q⟩, fun ⟨t', q1, q⟩ => ⟨t', ?_, q⟩⟩)
      by_cases he : t' = t
      · rw [he, hb] at q
        cases q.1
      · omega
    | true =>
      have hlt := bd_lt hb
      have hi9 : imA d K ar an n0 (bdiff s (2 ^ t)) < 2 ^ 9 := Nat.lt_of_lt_of_le (imA_lt ..) (Nat.pow_le_pow_right (by decide) hn9)
      rw [if_neg (by decide), shl_nI (by omega), nI_diff, at_in (by omega) (by decide), hm _ hlt, nI_or]
      refine mp4 hd hO hn9 hs hm r (t + 1) n (acc ||| imA d K ar an n0 (bdiff s (2 ^ t))) (by omega) (by omega) (Nat.or_lt_two_pow ha hi9) (fun c => ?_)
      rw [Nat.testBit_or, Bool.or_eq_true, h c]
      constructor
      · rintro (⟨t', q1, q⟩ | q)
        · exact ⟨t', by omega, q⟩
        · exact ⟨t, by omega, hb, q⟩
      · rintro ⟨t', q1, q2, q3⟩
        by_cases he : t' = t
        · exact Or.inr (he ▸ q3)
        · exact Or.inl ⟨t', by omega, q2, q3⟩
theorem Img_mono {d w n s s' c : Nat} {T : Nat → Nat} (h : ∀ i, s.testBit i = true → s'.testBit i = true) (q : Img d w T n s c) : Img d w T n s' c := by
  obtain ⟨x, x1, x2⟩ := q
  exact ⟨x, fun p hp => h _ (x1 p hp), x2⟩
theorem Img_part {d w n s c N : Nat} {T : Nat → Nat} (hw : w ≤ 3) (h : 3 < pc s N) (q : Img d w T n s c) : ∃ t, s.testBit t = true ∧ Img d w T n (bdiff s (2 ^ t)) c := by
  obtain ⟨x, x1, x2⟩ := q
  obtain ⟨t, t1, t2, t3, t4, t5⟩ := pc_three h (x 0) (x 1) (x 2)
  refine ⟨t, t2, x, fun p hp => bd_one.mpr ⟨x1 p hp, fun e => ?_⟩, x2⟩
  have h3 : p = 0 ∨ p = 1 ∨ p = 2 := by omega
  rcases h3 with rfl | rfl | rfl
  · exact t3 e.symm
  · exact t4 e.symm
  · exact t5 e.symm
theorem pc_up {s : Nat} {n m : Nat} (h : s < 2 ^ n) (hm : n ≤ m) : pc s m = pc s n := by
  obtain ⟨k, rfl⟩ : ∃ k, m = n + k := ⟨m - n, by omega⟩
  induction k with
  | zero => rfl
  | succ k ih =>
    show pc s (n + k) + (if s.testBit (n + k) then 1 else 0) = _
    rw [bit_ge h (by omega), ih (by omega)]
    rfl
theorem ck24 {d K n0 : Nat} {ar : Nat → Nat} {an : Nat → Nat → Nat} (hn0 : n0 ≤ 3) (hn9 : d ^ n0 ≤ 9) :
    ∀ (r s n : Nat) (g : xG) (a : xA), s + r = 2 ^ (d ^ n0) → r < n → Bas d g a → OKs d K ar an g a → (∀ s', s' < s → a 12 s' = nI (imA d K ar an n0 s')) →
    ∃ g' a', f_X6_countKept_24 n g a (nI n0) (nI (cb (fun s => bdiff (imA d K ar an n0 s) s = 0) s)) (nI (2 ^ (d ^ n0))) (nI s) = some (nI (cb (fun s => bdiff (imA d K ar an n0 s) s = 0) (2 ^ (d ^ n0))), g', a') ∧ Sm [2, 3] [8, 9, 12] g a g' a'
  | 0, s, n, g, a, hs, hn, hB, hO, hm => by
    obtain ⟨n, rfl⟩ := pos_of hn
    have hp : 2 ^ (d ^ n0) ≤ 2 ^ 9 := Nat.pow_le_pow_right (by decide) hn9
    have e : s = 2 ^ (d ^ n0) := by omega
    refine ⟨g, a, ?_, Sm_rfl⟩
    rw [e_X6_countKept_24, if_pos (nI_le (by omega) (by omega)), e]
  | r + 1, s, n, g, a, hs, hn, hB, hO, hm => by
    obtain ⟨n, rfl⟩ := pos_of hn
    have hd := hB.1
    have hp : 2 ^ (d ^ n0) ≤ 2 ^ 9 := Nat.pow_le_pow_right (by decide) hn9
    have hs2 : s < 2 ^ (d ^ n0) := by omega
    have hi : imA d K ar an n0 s < 2 ^ 9 := Nat.lt_of_lt_of_le (imA_lt ..) hp
    have hbl : bdiff (imA d K ar an n0 s) s < 2 ^ 31 := Nat.lt_of_lt_of_le (bdiff_le _ _ hi) (by decide)
    have fin : ∀ (g1 : xG) (a1 : xA), Sm [2, 3] [8, 9] g a g1 a1 → ∃ g' a', f_X6_countKept_67 (f_X6_countKept_24 n) g1 a1 (nI n0) (nI (cb (fun s => bdiff (imA d K ar an n0 s) s = 0) s)) (nI (2 ^ (d ^ n0))) (nI s) (nI (imA d K ar an n0 s)) = some (nI (cb (fun s => bdiff (imA d K ar an n0 s) s = 0) (2 ^ (d ^ n0))), g', a') ∧ Sm [2, 3] [8, 9, 12] g a g' a' := fun g1 a1 hs1 => by
      have hs3 : Sm [2, 3] [8, 9, 12] g a g1 (upA a1 12 (upd (a1 12) s (nI (imA d K ar an n0 s)))) := Sm_A (Sm_mo hs1 (by decide) (by decide)) (by decide)
      obtain ⟨g', a', e1, e2⟩ := ck24 (K := K) (ar := ar) (an := an) hn0 hn9 r (s + 1) n g1 (upA a1 12 (upd (a1 12) s (nI (imA d K ar an n0 s)))) (by omega) (by omega) (Bas_sm hB hs3) (OKs_sm hO hs3) (fun s' hs' => by
        rw [upA_s]
        by_cases he : s' = s
        · rw [he, upd_s]
        · rw [upd_n _ _ he, congrFun (hs1.2 12 (by decide)) s']
          exact hm s' (by omega))
      refine ⟨g', a', ?_, Sm_tr hs3 e2⟩
      unfold f_X6_countKept_67
      rw [nI_diff, put_in (by omega) (by decide), show nI s + 1 = nI (s + 1) from nI_1 s]
      by_cases h0 : bdiff (imA d K ar an n0 s) s = 0
      · rw [cb_1 (P := fun s => bdiff (imA d K ar an n0 s) s = 0) h0] at e1
        rw [if_pos (by rw [h0]; rfl), show nI (cb (fun s => bdiff (imA d K ar an n0 s) s = 0) s) + 1 = nI (cb (fun s => bdiff (imA d K ar an n0 s) s = 0) s + 1) from nI_1 _]
        exact e1
      · rw [cb_0 (P := fun s => bdiff (imA d K ar an n0 s) s = 0) h0] at e1
        rw [if_neg (nI_ne0 (by omega) hbl)]
        exact e1
    rw [e_X6_countKept_24, if_neg (nI_ge hs2 (by omega)), bc9 (by omega)]
    have hpl := pc_le s 31
    by_cases h3 : 3 < pc s 31
    · rw [if_pos (show (3 : Int32) < nI (pc s 31) from nI_lt (a := 3) h3 (by omega))]
      obtain ⟨x, x1, x2, x3⟩ := mp4 hd hO hn9 hs2 hm 9 0 fu 0 rfl (fu_gt (by omega)) (by decide) (fun c => by
        rw [Nat.zero_testBit]
        exact ⟨fun q => (by cases q), fun ⟨t', q, _⟩ => by omega⟩)
      have hx : x = imA d K ar an n0 s := set_ext fun c => by
        rw [x3 c, imA_bit (by omega) hO]
        constructor
        · rintro ⟨t, t1, t2⟩
          obtain ⟨k, k1, k2⟩ := (imA_bit (by omega) hO c).mp t2
          exact ⟨k, k1, Img_mono (fun i q => (bd_one.mp q).1) k2⟩
        · rintro ⟨k, k1, k2⟩
          obtain ⟨t, t1, t2⟩ := Img_part (hO.2.2 k k1).2.2.2.1 h3 k2
          exact ⟨t, t1, (imA_bit (by omega) hO c).mpr ⟨k, k1, t2⟩⟩
      have x1' : f_X6_madeOfParts g a (nI s) = some (nI x) := x1
      unfold f_X6_countKept_44
      rw [if_pos rfl, x1', Option.bind_some, hx]
      exact fin g a Sm_rfl
    · rw [if_neg (show ¬ (3 : Int32) < nI (pc s 31) from nI_nlt (a := 3) (b := pc s 31) (by omega) (by decide))]
      obtain ⟨g1, a1, e1, e2⟩ := ia5 (ar := ar) (an := an) hn0 hs2 K 0 fu 0 g a (by omega) (fu_gt (by have := hO.1; omega)) hB hO (Nat.two_pow_pos _) (fun c => by
        rw [Nat.zero_testBit]
        exact ⟨fun q => (by cases q), fun ⟨t', q, _⟩ => by omega⟩)
      have e1' : f_X6_imagesOfAll g a (nI n0) (nI s) = some (nI (imA d K ar an n0 s), g1, a1) := e1
      unfold f_X6_countKept_44
      rw [if_neg (by decide), e1', Option.bind_some]
      exact fin g1 a1 e2
def OKm (d K : Nat) (ar : Nat → Nat) (an : Nat → Nat → Nat) (g : xG) (a : xA) : Prop := K ≤ 6 ∧ g 2 = nI K ∧ ∀ k, k < K → OpM d k (ar k) (an k) a ∧ a 3 k = nI (ar k)
theorem OKm_sm {d K : Nat} {ar : Nat → Nat} {an : Nat → Nat → Nat} {Q : List Nat} {g g' : xG} {a a' : xA} (h : OKm d K ar an g a) (s : Sm [] Q g a g' a') (h4 : ¬ 4 ∈ Q := by decide) (h3 : ¬ 3 ∈ Q := by decide) : OKm d K ar an g' a' :=
  ⟨h.1, (s.1 2 (fun q => by cases q)).trans h.2.1, fun k hk => ⟨OpM_sm (h.2.2 k hk).1 s h4, (congrFun (s.2 3 h3) k).trans (h.2.2 k hk).2⟩⟩
theorem km46 {d K n0 s : Nat} {ar : Nat → Nat} {an : Nat → Nat → Nat} {g : xG} (hd : d = 2 ∨ d = 3) (h0 : g 0 = nI d) (hn0 : n0 ≤ 3) (hs : s < 2 ^ (d ^ n0)) {K22 : xG → xA → Int32 → Int32 → Int32 → Option (Int32 × xG × xA)} {x2 : Int32} :
    ∀ (r k n : Nat) (a : xA) (b0 : Bool), k + r = K → r < n → OKm d K ar an g a →
    ∃ (b : Bool) (a' : xA), f_X12_kept_46 K22 n g a (nI n0) x2 (nI s) (if b0 then 1 else 0) (nI k) = f_X12_kept_95 K22 g a' (nI n0) x2 (nI s) (if b then 1 else 0) ∧ Sm [] [11] g a g a' ∧ (b = true ↔ b0 = true ∧ ∀ k', k ≤ k' → k' < K → bdiff (im d (ar k') (an k') n0 s) s = 0)
  | 0, k, n, a, b0, hk, hn, hO => by
    obtain ⟨n, rfl⟩ := pos_of hn
    have hK := hO.1
    refine ⟨b0, a, ?_, Sm_rfl, fun q => ⟨q, fun c' h1 h2 => by omega⟩, fun q => q.1⟩
    rw [e_X12_kept_46, hO.2.1, if_pos (nI_le (by omega) (by omega))]
  | r + 1, k, n, a, b0, hk, hn, hO => by
    obtain ⟨n, rfl⟩ := pos_of hn
    have hK := hO.1
    rw [e_X12_kept_46, hO.2.1, if_neg (nI_ge (by omega) (by omega))]
    cases b0 with
    | false =>
      refine ⟨false, a, ?_, Sm_rfl, fun q => (by cases q), fun q => q.1⟩
      rw [if_pos (by decide)]
    | true =>
      obtain ⟨o1, o2⟩ := hO.2.2 k (by omega)
      obtain ⟨a1, e1, e2⟩ := come_i hd h0 hn0 hs o1
      have h27 := pw3 hd hn0
      have hbl : bdiff (im d (ar k) (an k) n0 s) s < 2 ^ 31 := Nat.lt_of_lt_of_le (bdiff_le _ _ (im_lt ..)) (Nat.pow_le_pow_right (by decide) (by omega))
      rw [if_neg (by decide), ck_t (inB_t (by omega) (by decide)), nI_clamp (by omega), o2, e1, Option.bind_some]
      dsimp only
      rw [nI_diff, show nI k + 1 = nI (k + 1) from nI_1 k]
      by_cases hz : bdiff (im d (ar k) (an k) n0 s) s = 0
      · obtain ⟨b, a2, q1, q2, q3⟩ := km46 hd h0 hn0 hs (K22 := K22) (x2 := x2) r (k + 1) n a1 true (by omega) (by omega) (OKm_sm hO e2)
        refine ⟨b, a2, ?_, Sm_tr e2 q2, q3.trans ⟨fun q => ⟨rfl, fun k' k1 k2 => ?_⟩, fun q => ⟨rfl, fun k' k1 k2 => q.2 k' (by omega) k2⟩⟩⟩
        · rw [if_pos (by rw [hz]; rfl)]
          exact q1
        · by_cases he : k' = k
          · rw [he]; exact hz
          · exact q.2 k' (by omega) k2
      · obtain ⟨b, a2, q1, q2, q3⟩ := km46 hd h0 hn0 hs (K22 := K22) (x2 := x2) r (k + 1) n a1 false (by omega) (by omega) (OKm_sm hO e2)
        refine ⟨b, a2, ?_, Sm_tr e2 q2, q3.trans ⟨fun q => (by cases q.1), fun q => absurd (q.2 k (Nat.le_refl _) (by omega)) hz⟩⟩
        rw [if_neg (nI_ne0 (by omega) hbl)]
        exact q1
theorem km22 {d K n0 : Nat} {ar : Nat → Nat} {an : Nat → Nat → Nat} {g : xG} (hd : d = 2 ∨ d = 3) (h0 : g 0 = nI d) (h8 : g 8 = 0) (hn0 : n0 ≤ 3) (hn9 : d ^ n0 ≤ 9) {gX : xG} {aX : xA} (hX : OKs d K ar an gX aX) :
    ∀ (r s n : Nat) (a : xA), s + r = 2 ^ (d ^ n0) → r < n → OKm d K ar an g a →
    ∃ a', f_X12_kept_22 n g a (nI n0) (nI (cb (fun s => bdiff (imA d K ar an n0 s) s = 0) s)) (nI s) = some (nI (cb (fun s => bdiff (imA d K ar an n0 s) s = 0) (2 ^ (d ^ n0))), g, a') ∧ Sm [] [11] g a g a'
  | 0, s, n, a, hs, hn, hO => by
    obtain ⟨n, rfl⟩ := pos_of hn
    have hp : 2 ^ (d ^ n0) ≤ 2 ^ 9 := Nat.pow_le_pow_right (by decide) hn9
    have e : s = 2 ^ (d ^ n0) := by omega
    refine ⟨a, ?_, Sm_rfl⟩
    rw [e_X12_kept_22, h8, if_pos rfl, pwM (by omega) h0, Option.bind_some, shl_nI (by omega), if_pos (nI_le (by omega) (by omega)), e]
  | r + 1, s, n, a, hs, hn, hO => by
    obtain ⟨n, rfl⟩ := pos_of hn
    have hp : 2 ^ (d ^ n0) ≤ 2 ^ 9 := Nat.pow_le_pow_right (by decide) hn9
    have hK := hO.1
    obtain ⟨b, a1, e1, e2, e3⟩ := km46 hd h0 hn0 (s := s) (by omega) (K22 := f_X12_kept_22 n) (x2 := nI (cb (fun s => bdiff (imA d K ar an n0 s) s = 0) s)) K 0 fu a true (by omega) (fu_gt (by omega)) hO
    obtain ⟨a2, e4, e5⟩ := km22 hd h0 h8 hn0 hn9 hX r (s + 1) n a1 (by omega) (by omega) (OKm_sm hO e2)
    refine ⟨a2, ?_, Sm_tr e2 e5⟩
    rw [e_X12_kept_22, h8, if_pos rfl, pwM (by omega) h0, Option.bind_some, shl_nI (by omega), if_neg (nI_ge (by omega) (by omega))]
    refine Eq.trans e1 ?_
    have hiff : b = true ↔ bdiff (imA d K ar an n0 s) s = 0 := by
      rw [e3, bdiff_0]
      constructor
      · rintro ⟨_, q⟩ i hi
        obtain ⟨k, k1, k2⟩ := (imA_bit (by omega) hX i).mp hi
        exact bdiff_0.mp (q k (Nat.zero_le _) k1) i ((im_bit (by omega) (fun p hp => ((hX.2.2 k k1).2.2.2.2 p hp).2) i).mpr k2)
      · intro q
        refine ⟨rfl, fun k _ k1 => bdiff_0.mpr (fun i hi => q i ((imA_bit (by omega) hX i).mpr ⟨k, k1, (im_bit (by omega) (fun p hp => ((hX.2.2 k k1).2.2.2.2 p hp).2) i).mp hi⟩))⟩
    unfold f_X12_kept_95
    rw [show nI s + 1 = nI (s + 1) from nI_1 s]
    cases hb : b with
    | false =>
      rw [cb_0 (P := fun s => bdiff (imA d K ar an n0 s) s = 0) (fun q => by rw [hiff.mpr q] at hb; cases hb)] at e4
      rw [if_pos (by decide)]
      simp only [z0, nI_add, Nat.add_zero]
      exact e4
    | true =>
      rw [cb_1 (P := fun s => bdiff (imA d K ar an n0 s) s = 0) (hiff.mp hb)] at e4
      rw [if_neg (by decide), show nI (cb (fun s => bdiff (imA d K ar an n0 s) s = 0) s) + 1 = nI (cb (fun s => bdiff (imA d K ar an n0 s) s = 0) s + 1) from nI_1 _]
      exact e4
theorem OKs_of {d K : Nat} {ar : Nat → Nat} {an : Nat → Nat → Nat} {g : xG} {a : xA} {gm : xG} {am : xA} (h : CK d K ar an g a gm am) : OKs d K ar an g a := ⟨h.1, h.2.1, fun k hk => (h.2.2.2 k hk).1⟩
theorem OKm_of {d K : Nat} {ar : Nat → Nat} {an : Nat → Nat → Nat} {g : xG} {a : xA} {gm : xG} {am : xA} (h : CK d K ar an g a gm am) {v : Int32} : OKm d K ar an (upd gm 8 v) am := ⟨h.1, (upd_n _ _ (by decide)).trans h.2.2.1, fun k hk => (h.2.2.2 k hk).2⟩
theorem ob1_kept : ob_kept Cpl := by
  intro g a gm am v1 h
  have hC := h
  obtain ⟨d, R, K, T, V, C, pl, tu, ar, ch, cr, an, cv, hB, h0, hR, hK, hT, hI⟩ := h
  have hd := hB.1
  have hX := OKs_of hK
  have key : ∀ j, (j = 1 ∨ j = 2) → ∃ x : Int32, ∃ g' a' am', f_X11_kept_20 g a (nI j) = some (.inr (x, g', a')) ∧ f_X12_kept gm am (nI j) = some (x, upd gm 8 0, am') ∧ Cpl g' a' (upd gm 8 0) am' := fun j hj => by
    have hj9 : d ^ j ≤ 9 := pw9 hd (by omega)
    have hp : 2 ^ (d ^ j) ≤ 2 ^ 9 := Nat.pow_le_pow_right (by decide) hj9
    obtain ⟨g', a', e1, e2⟩ := ck24 (K := K) (ar := ar) (an := an) (n0 := j) (by omega) hj9 (2 ^ (d ^ j)) 0 fu g a (by omega) (fu_gt (by omega)) hB hX (fun s h => by omega)
    obtain ⟨am', m1, m2⟩ := km22 (g := upd gm 8 0) hd ((upd_n _ _ (by decide)).trans h0) (upd_s ..) (n0 := j) (by omega) hj9 hX (2 ^ (d ^ j)) 0 fu am (by omega) (fu_gt (by omega)) (OKm_of hK)
    refine ⟨nI (cb (fun s => bdiff (imA d K ar an j s) s = 0) (2 ^ (d ^ j))), g', a', am', ?_, ?_, Cpl_fr hC (Sm_mo e2 (by decide) (by decide)) (SmM_tr SmM_8 (SmM_of m2))⟩
    · have hlim : (if (512 : Int32) < ((1 : Int32) <<< ((t_X4_power g a (nI j)) &&& 31)) then (512 : Int32) else ((1 : Int32) <<< ((t_X4_power g a (nI j)) &&& 31))) = nI (2 ^ (d ^ j)) := by
        rw [power_B hB (by omega), shl_nI (by omega), if_neg (show ¬ (512 : Int32) < nI (2 ^ (d ^ j)) from nI_nlt (a := 512) (b := 2 ^ (d ^ j)) (by omega) (by decide))]
      unfold f_X11_kept_20 f_X6_countKept
      rw [hlim]
      rw [show f_X6_countKept_24 fu g a (nI j) 0 (nI (2 ^ (d ^ j))) 0 = _ from e1, Option.bind_some]
    · unfold f_X12_kept
      rw [if_neg (by rw [show t_X12_in gm am (nI j) 1 2 = 1 from in_1 (lo := 1) (hi := 2) (by omega) (by omega) (by decide)]; decide)]
      exact m1
  rcases ksn0 v1 with rfl | rfl | ⟨n1, n2, n3⟩
  · obtain ⟨x, g', a', am', k1, k2, k3⟩ := key 1 (Or.inl rfl)
    refine Or.inl ⟨(x, g', a'), (x, upd gm 8 0, am'), ?_, k2, thr_8, rfl, k3⟩
    unfold f_X11_kept
    rw [if_pos (show nI 1 = 1 from rfl), k1]
  · obtain ⟨x, g', a', am', k1, k2, k3⟩ := key 2 (Or.inr rfl)
    refine Or.inl ⟨(x, g', a'), (x, upd gm 8 0, am'), ?_, k2, thr_8, rfl, k3⟩
    unfold f_X11_kept
    rw [if_neg (show ¬ nI 2 = 1 by decide), if_pos (show nI 2 = 2 from rfl), k1]
  · refine Or.inr ⟨(1, g, a), (0, upd gm 8 1, am), ?_, rfl, ?_, thr_8, Cpl_8 hC⟩
    · unfold f_X11_kept
      rw [if_neg n1, if_neg n2]
    · unfold f_X12_kept
      rw [if_pos (show t_X12_in gm am v1 1 2 = 0 from in_0 n3)]
      obtain ⟨n, hn⟩ : ∃ n, fu = n + 1 := ⟨999999, rfl⟩
      rw [hn, e_X12_kept_22, if_neg (by rw [upd_s]; decide)]
