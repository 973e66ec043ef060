/-! binary. -/
theorem or4 : ∀ p, p < 4 → ∀ x, x < 2 ^ p → x ||| 2 ^ p = x + 2 ^ p := by decide +kernel
theorem b2_ (c p : Nat) : c / 2 ^ p % 2 = dg 2 c p := rfl
theorem c79 {w op p : Nat} {T x : Nat → Nat} {g : xG} {a : xA} (hO : OpM 2 op w T a) (hop : op < 6) (hp : p < 4) (hx : ∀ j, j < w → a 11 j = nI (x j) ∧ x j < 27) {acc : Nat} {x2 x4 x5 x6 : Int32} {K39 : xA → Int32 → Int32 → Int32 → Int32 → Int32 → Int32 → Option (Int32 × xA)} {K65 : xA → Int32 → Int32 → Int32 → Int32 → Int32 → Int32 → Int32 → Int32 → Option (Int32 × xA)} :
    ∀ (j r n : Nat), j + r = w → j < n → f_X12_comeTwo_79 g K39 K65 n a (nI op) x2 (nI w) x4 x5 x6 (nI acc) (nI p) (nI (nm 2 (fun q => dg 2 (x (j + q)) p) r)) (nI j + -nI 1) = K65 a (nI op) x2 (nI w) x4 x5 x6 (nI (acc ||| T (nm 2 (fun q => dg 2 (x q) p) w) * 2 ^ p)) (nI (p + 1))
  | 0, r, n, hj, hn => by
    obtain ⟨n, rfl⟩ := pos_of hn
    have e : r = w := by omega
    subst e
    have hl := nm_lt (d := 2) (f := fun q => dg 2 (x q) p) r (fun q _ => dg_lt (by decide) _ _)
    have h27 := pw3 (d := 2) (Or.inl rfl) hO.2.2.1
    obtain ⟨t1, t2⟩ := hO.2.2.2 _ hl
    have hpp : T (nm 2 (fun q => dg 2 (x q) p) r) * 2 ^ p < 2 ^ 32 := by
      have h1 : T (nm 2 (fun q => dg 2 (x q) p) r) * 2 ^ p ≤ 1 * 2 ^ p := Nat.mul_le_mul_right _ (by omega)
      have h2 : 2 ^ p < 2 ^ 32 := Nat.pow_lt_pow_right (by decide) (by omega)
      omega
    rw [e_X12_comeTwo_79, if_pos (show nI 0 + -nI 1 < 0 from m1z), hn_0 2 (fun q => dg 2 (x q) p)]
    simp only [z27, pk_mul, nI_add]
    rw [ck_t (inB_t (by omega) (by decide)), nI_clamp (by omega), t1, shlF (by omega) hpp, nI_or, show nI p + 1 = nI (p + 1) from nI_1 p]
  | j + 1, r, n, hj, hn => by
    obtain ⟨n, rfl⟩ := pos_of hn
    obtain ⟨x1, x2'⟩ := hx j (by omega)
    have hw := hO.2.2.1
    have e1 : nI (x j) >>> (nI p &&& 31) = nI (x j / 2 ^ p) := pk_shrN (by omega) _ p (sh_l p (by omega))
    have e2 : nI (x j / 2 ^ p) &&& 1 = nI (dg 2 (x j) p) := by
      have := nI_and (x j / 2 ^ p) 1
      rw [and1] at this
      exact this
    rw [e_X12_comeTwo_79, m1p, if_neg (nI_pos (by omega)), ck_t (inB_t (by omega) (by decide)), nI_clamp (by omega), x1, e1, e2, show (2 : Int32) = nI 2 from rfl, pk_mul, nI_add, Nat.mul_comm 2, hn_sh 2 (fun q => dg 2 (x q) p)]
    exact c79 hO hop hp hx j (r + 1) n (by omega) (by omega)
theorem c65 {w op : Nat} {T x : Nat → Nat} {g : xG} {a : xA} (hO : OpM 2 op w T a) (hop : op < 6) (hx : ∀ j, j < w → a 11 j = nI (x j) ∧ x j < 27) {x2 x4 x6 : Int32} {fnd : Nat} {K39 : xA → Int32 → Int32 → Int32 → Int32 → Int32 → Int32 → Option (Int32 × xA)} :
    ∀ (r p n : Nat), p + r = 4 → r < n → f_X12_comeTwo_65 g K39 n a (nI op) x2 (nI w) x4 (nI fnd) x6 (nI (nm 2 (fun j => T (nm 2 (fun q => dg 2 (x q) j) w)) p)) (nI p) = K39 a (nI op) x2 (nI w) x4 (nI (fnd ||| 2 ^ apl 2 w T 4 x)) (x6 + 1)
  | 0, p, n, hp, hn => by
    obtain ⟨n, rfl⟩ := pos_of hn
    have e : p = 4 := by omega
    subst e
    have hl : apl 2 w T 4 x < 2 ^ 4 := apl_lt (by decide) (fun p hp => (hO.2.2.2 p hp).2)
    rw [e_X12_comeTwo_65, if_pos (show (4 : Int32) ≤ nI 4 by decide), show nm 2 (fun j => T (nm 2 (fun q => dg 2 (x q) j) w)) 4 = apl 2 w T 4 x from rfl, shl_nI (by omega), nI_or]
  | r + 1, p, n, hp, hn => by
    obtain ⟨n, rfl⟩ := pos_of hn
    have hw := hO.2.2.1
    have hTl : ∀ j, T (nm 2 (fun q => dg 2 (x q) j) w) < 2 := fun j => (hO.2.2.2 _ (nm_lt (d := 2) (f := fun q => dg 2 (x q) j) w (fun q _ => dg_lt (by decide) _ _))).2
    have hl := nm_lt (d := 2) (f := fun j => T (nm 2 (fun q => dg 2 (x q) j) w)) p (fun j _ => hTl j)
    have es : nm 2 (fun j => T (nm 2 (fun q => dg 2 (x q) j) w)) p ||| T (nm 2 (fun q => dg 2 (x q) p) w) * 2 ^ p = nm 2 (fun j => T (nm 2 (fun q => dg 2 (x q) j) w)) (p + 1) := by
      show _ = nm 2 (fun j => T (nm 2 (fun q => dg 2 (x q) j) w)) p + T (nm 2 (fun q => dg 2 (x q) p) w) * 2 ^ p
      have h2 := hTl p
      rcases (by omega : T (nm 2 (fun q => dg 2 (x q) p) w) = 0 ∨ T (nm 2 (fun q => dg 2 (x q) p) w) = 1) with h | h
      · rw [h, Nat.zero_mul, Nat.or_zero, Nat.add_zero]
      · rw [h, Nat.one_mul]
        exact or4 p (by omega) _ hl
    have := c79 (g := g) (p := p) hO hop (by omega) hx (acc := nm 2 (fun j => T (nm 2 (fun q => dg 2 (x q) j) w)) p) (x2 := x2) (x4 := x4) (x5 := nI fnd) (x6 := x6) (K39 := K39) (K65 := f_X12_comeTwo_65 g K39 n) w 0 fu (by omega) (fu_gt (by omega))
    rw [es] at this
    rw [e_X12_comeTwo_65, if_neg (show ¬ (4 : Int32) ≤ nI p from nI_ge (a := p) (b := 4) (by omega) (by decide)), show nI w - 1 = nI w + -nI 1 from m1s _]
    refine Eq.trans this ?_
    exact c65 hO hop hx r (p + 1) n (by omega) (by omega)
theorem c39 {op w s N : Nat} {T : Nat → Nat} {g : xG} (hop : op < 6) (hs : s < 2 ^ 16) (hN : N = 16 ^ w) :
    ∀ (r n : Nat) (a : xA) (acc : Nat), r < n → r ≤ N → OpM 2 op w T a → acc < 2 ^ 16 →
    ∃ acc' a', f_X12_comeTwo_39 g n a (nI op) (nI s) (nI w) (nI N) (nI acc) (nI (N - r)) = some (nI acc', a') ∧ acc' < 2 ^ 16 ∧ Sm [] [11] g a g a' ∧
      ∀ c, acc'.testBit c = true ↔ acc.testBit c = true ∨ ∃ q, N - r ≤ q ∧ q < N ∧ (∀ p, p < w → s.testBit (dg 16 q p) = true) ∧ apl 2 w T 4 (dg 16 q) = c
  | 0, n, a, acc, hn, hr, hO, ha => by
    obtain ⟨n, rfl⟩ := pos_of hn
    have hw := hO.2.2.1
    have hmw := mw3 (m := 16) (by decide) hw
    refine ⟨acc, a, ?_, ha, Sm_rfl, fun c => ⟨Or.inl, ?_⟩⟩
    · rw [e_X12_comeTwo_39, if_pos (nI_le (by omega) (by omega))]
    · rintro (h | ⟨q, h1, h2, _⟩)
      · exact h
      · omega
  | r + 1, n, a, acc, hn, hr, hO, ha => by
    obtain ⟨n, rfl⟩ := pos_of hn
    have hw := hO.2.2.1
    have hmw := mw3 (m := 16) (by decide) hw
    obtain ⟨fl, f, e1, e2, e3, e4⟩ := pbM (g := g) (a := a) (q := N - (r + 1)) (w := w) (M := 16) (s := s) hw (by decide) (by decide) (by omega) (by omega)
    have s1 : Sm [] [11] g a g (upA a 11 f) := Sm_A Sm_rfl (by decide)
    have hO1 := OpM_sm hO s1
    have e1' : f_X12_picksBy g a (nI (N - (r + 1))) (nI w) 16 (nI s) = some (nI fl, upA a 11 f) := e1
    rw [e_X12_comeTwo_39, if_neg (nI_ge (by omega) (by omega)), e1', Option.bind_some]
    by_cases h0' : fl = 0
    · obtain ⟨acc', a', q1, q2, q3, q4⟩ := c39 (g := g) (T := T) hop hs hN r n (upA a 11 f) acc (by omega) (by omega) hO1 ha
      refine ⟨acc', a', ?_, q2, Sm_tr s1 q3, fun c => ?_⟩
      · rw [h0', if_pos (show nI 0 = 0 from rfl), show nI (N - (r + 1)) + 1 = nI (N - r) by rw [nI_1]; congr 1; omega]
        exact q1
      · rw [q4 c]
        constructor
        · rintro (h | ⟨q, h1, h2⟩)
          · exact Or.inl h
          · exact Or.inr ⟨q, by omega, h2⟩
        · rintro (h | ⟨q, h1, h2, h3, h4⟩)
          · exact Or.inl h
          · refine Or.inr ⟨q, ?_, h2, h3, h4⟩
            by_cases he : q = N - (r + 1)
            · rw [he] at h3
              have := e3.mpr h3
              omega
            · omega
    · have h1' : fl = 1 := by omega
      have hin := e3.mp h1'
      have hl : apl 2 w T 4 (dg 16 (N - (r + 1))) < 16 := apl_lt (n := 4) (by decide) (fun p hp => (hO.2.2.2 p hp).2)
      obtain ⟨acc', a', q1, q2, q3, q4⟩ := c39 (g := g) (T := T) hop hs hN r n (upA a 11 f) (acc ||| 2 ^ apl 2 w T 4 (dg 16 (N - (r + 1)))) (by omega) (by omega) hO1 (or_lt ha hl)
      refine ⟨acc', a', ?_, q2, Sm_tr s1 q3, fun c => ?_⟩
      · rw [h1', if_neg (show ¬ nI 1 = 0 by decide)]
        have := c65 (g := g) (x := dg 16 (N - (r + 1))) hO1 hop (fun p hp => ⟨by rw [upA_s]; exact e4 p hp, by have := dg_lt (d := 16) (by decide) (N - (r + 1)) p; omega⟩) (x2 := nI s) (x4 := nI N) (x6 := nI (N - (r + 1))) (fnd := acc) (K39 := f_X12_comeTwo_39 g n) 4 0 fu rfl (fu_gt (by omega))
        refine Eq.trans this ?_
        rw [show nI (N - (r + 1)) + 1 = nI (N - r) by rw [nI_1]; congr 1; omega]
        exact q1
      · rw [q4 c, or_bit]
        constructor
        · rintro ((h | h) | ⟨q, h1, h2⟩)
          · exact Or.inl h
          · exact Or.inr ⟨N - (r + 1), by omega, by omega, hin, h⟩
          · exact Or.inr ⟨q, by omega, h2⟩
        · rintro (h | ⟨q, h1, h2, h3, h4⟩)
          · exact Or.inl (Or.inl h)
          · by_cases he : q = N - (r + 1)
            · exact Or.inl (Or.inr (by rw [← h4, he]))
            · exact Or.inr ⟨q, by omega, h2, h3, h4⟩
theorem twoM {op w s : Nat} {T : Nat → Nat} {g : xG} {a : xA} (hop : op < 6) (hs : s < 2 ^ 16) (hO : OpM 2 op w T a) (h3 : a 3 op = nI w) :
    ∃ x a', f_X12_comeTwo g a (nI op) (nI s) = some (nI x, a') ∧ x < 2 ^ 16 ∧ (∀ c, x.testBit c = true ↔ Img 2 w T 4 s c) ∧ Sm [] [11] g a g a' := by
  have hw := hO.2.2.1
  have hw1 := hO.2.1
  have hmw := mw3 (m := 16) (by decide) hw
  obtain ⟨x, a', e1, e2, e3, e4⟩ := c39 (g := g) (T := T) (w := w) hop hs rfl (16 ^ w) fu a 0 (fu_gt (by omega)) (Nat.le_refl _) hO (by decide)
  refine ⟨x, a', ?_, e2, fun c => ?_, e3⟩
  · unfold f_X12_comeTwo
    rw [ck_t (inB_t hop (by decide)), nI_clamp (by omega), h3]
    rw [Nat.sub_self] at e1
    have h : w = 1 ∨ w = 2 ∨ w = 3 := by omega
    rcases h with rfl | rfl | rfl
    · rw [if_pos (show nI 1 = 1 from rfl)]
      exact e1
    · rw [if_neg (show ¬ nI 2 = 1 by decide), if_pos (show nI 2 = 2 from rfl)]
      exact e1
    · rw [if_neg (show ¬ nI 3 = 1 by decide), if_neg (show ¬ nI 3 = 2 by decide)]
      exact e1
  · rw [e4 c, Nat.zero_testBit]
    constructor
    · rintro (h | ⟨q, _, _, h3, h4⟩)
      · cases h
      · exact ⟨_, h3, h4⟩
    · rintro ⟨y, hy, h2⟩
      have hyM : ∀ p, p < w → y p < 16 := fun p hp => bit_lt hs (hy p hp)
      have hdg : ∀ p, p < w → dg 16 (nm 16 y w) p = y p := fun p hp => nm_dg (by decide) w hyM p hp
      refine Or.inr ⟨nm 16 y w, by omega, nm_lt w hyM, fun p hp => ?_, ?_⟩
      · rw [hdg p hp]
        exact hy p hp
      · rw [← h2]
        exact apl_cong (by decide) (fun _ _ => rfl) hdg
theorem b41 {K st b : Nat} {ar : Nat → Nat} {an : Nat → Nat → Nat} {g : xG} (hb : b < 2 ^ 16) (hbL : ∀ c, b.testBit c = true → LC 2 K 3 4 st ar an c) {K32 : xG → xA → Int32 → Int32 → Option (Int32 × xG × xA)} :
    ∀ (r k n : Nat) (a : xA) (z : Nat), k + r = K → r < n → OKm 2 K ar an g a → z < 2 ^ 16 → (∀ c, b.testBit c = true → z.testBit c = true) → (∀ c, z.testBit c = true → LC 2 K 3 4 st ar an c) → (z = b → ∀ k', k' < k → ∀ c, Img 2 (ar k') (an k') 4 b c → b.testBit c = true) →
    ∃ z' a', f_X12_binary_41 K32 n g a (nI z) (nI b) (nI k) = K32 g a' (nI z') (nI b) ∧ Sm [] [11] g a g a' ∧ z' < 2 ^ 16 ∧ (∀ c, b.testBit c = true → z'.testBit c = true) ∧ (∀ c, z'.testBit c = true → LC 2 K 3 4 st ar an c) ∧ (z' = b → ∀ k', k' < K → ∀ c, Img 2 (ar k') (an k') 4 b c → b.testBit c = true)
  | 0, k, n, a, z, hk, hn, hO, hz, h1, h2, h3 => by
    obtain ⟨n, rfl⟩ := pos_of hn
    have hK := hO.1
    have e : k = K := by omega
    subst e
    refine ⟨z, a, ?_, Sm_rfl, hz, h1, h2, h3⟩
    rw [e_X12_binary_41, hO.2.1, if_pos (nI_le (Nat.le_refl _) (by omega))]
  | r + 1, k, n, a, z, hk, hn, hO, hz, h1, h2, h3 => by
    obtain ⟨n, rfl⟩ := pos_of hn
    have hK := hO.1
    have hkK : k < K := by omega
    obtain ⟨o1, o2⟩ := hO.2.2 k hkK
    obtain ⟨x, a1, e1, e2, e3, e4⟩ := twoM (g := g) (by omega) hb o1 o2
    obtain ⟨z', a2, k1, k2, k3⟩ := b41 (st := st) hb hbL (K32 := K32) r (k + 1) n a1 (z ||| x) (by omega) (by omega) (OKm_sm hO e4) (Nat.or_lt_two_pow hz e2) (fun c q => or_l (h1 c q)) (fun c q => by
      rw [Nat.testBit_or, Bool.or_eq_true, e3] at q
      rcases q with q | ⟨y, y1, rfl⟩
      · exact h2 c q
      · exact LC_op hkK o1.2.2.1 (fun p hp => hbL _ (y1 p hp))) (fun q k' q1 c hc => by
      have hzb : z = b := set_ext fun i => ⟨fun hi => by rw [← q]; exact or_l hi, h1 i⟩
      by_cases he : k' = k
      · rw [he] at hc
        rw [← q]
        exact or_r ((e3 c).mpr hc)
      · exact h3 hzb k' (by omega) c hc)
    refine ⟨z', a2, ?_, Sm_tr e4 k2, k3⟩
    rw [e_X12_binary_41, hO.2.1, if_neg (nI_ge hkK (by omega)), e1, Option.bind_some, nI_or, show nI k + 1 = nI (k + 1) from nI_1 k]
    exact k1
theorem b32 {K st : Nat} {ar : Nat → Nat} {an : Nat → Nat → Nat} {g : xG} :
    ∀ (m n : Nat) (a : xA) (z prev : Nat), 16 - pc z 16 ≤ m → m + 2 < n → OKm 2 K ar an g a → z < 2 ^ 16 → prev < 2 ^ 16 → (∀ c, st.testBit c = true → z.testBit c = true) → (∀ c, z.testBit c = true → LC 2 K 3 4 st ar an c) → z ≠ prev →
    ∃ z' a', f_X12_binary_32 n g a (nI z) (nI prev) = some (nI z', g, a') ∧ Sm [] [11] g a g a' ∧ ∀ c, z'.testBit c = true ↔ LC 2 K 3 4 st ar an c := by
  intro m
  induction m with
  | zero =>
    intro n a z prev hms hn hO hz hp h1 h2 hne
    obtain ⟨n, rfl⟩ := pos_of hn
    obtain ⟨n, rfl⟩ : ∃ n', n = n' + 1 := ⟨n - 1, by omega⟩
    have hK := hO.1
    obtain ⟨z', a1, e1, e2, e3, e4, e5, e6⟩ := b41 (g := g) (st := st) hz h2 (K32 := f_X12_binary_32 (n + 1)) K 0 fu a z (by omega) (fu_gt (by omega)) hO hz (fun _ h => h) h2 (fun _ k' h => by omega)
    have ee : f_X12_binary_32 (n + 1 + 1) g a (nI z) (nI prev) = f_X12_binary_32 (n + 1) g a1 (nI z') (nI z) := by
      rw [e_X12_binary_32, if_neg (fun h => hne ((nI_eq (by omega) (by omega)).mp h))]
      exact e1
    by_cases he : z' = z
    · refine ⟨z', a1, ?_, e2, fun c => LC_eq (fun c hc => e4 c (h1 c hc)) e5 (fun k hk _ c hc => ?_) c⟩
      · rw [ee, he, e_X12_binary_32, if_pos rfl]
      · rw [he] at hc ⊢
        exact e6 he k hk c hc
    · obtain ⟨i, i1, i2⟩ := sub_ne e4 (fun h => he h.symm)
      have hg := pc_lt e4 i1 i2 16 (bit_lt e3 i2)
      have hl := pc_le z' 16
      omega
  | succ m ih =>
    intro n a z prev hms hn hO hz hp h1 h2 hne
    obtain ⟨n, rfl⟩ := pos_of hn
    obtain ⟨n, rfl⟩ : ∃ n', n = n' + 1 := ⟨n - 1, by omega⟩
    have hK := hO.1
    obtain ⟨z', a1, e1, e2, e3, e4, e5, e6⟩ := b41 (g := g) (st := st) hz h2 (K32 := f_X12_binary_32 (n + 1)) K 0 fu a z (by omega) (fu_gt (by omega)) hO hz (fun _ h => h) h2 (fun _ k' h => by omega)
    have ee : f_X12_binary_32 (n + 1 + 1) g a (nI z) (nI prev) = f_X12_binary_32 (n + 1) g a1 (nI z') (nI z) := by
      rw [e_X12_binary_32, if_neg (fun h => hne ((nI_eq (by omega) (by omega)).mp h))]
      exact e1
    by_cases he : z' = z
    · refine ⟨z', a1, ?_, e2, fun c => LC_eq (fun c hc => e4 c (h1 c hc)) e5 (fun k hk _ c hc => ?_) c⟩
      · rw [ee, he, e_X12_binary_32, if_pos rfl]
      · rw [he] at hc ⊢
        exact e6 he k hk c hc
    · obtain ⟨i, i1, i2⟩ := sub_ne e4 (fun h => he h.symm)
      have hg := pc_lt e4 i1 i2 16 (bit_lt e3 i2)
      have hl := pc_le z' 16
      obtain ⟨z2, a2, k1, k2, k3⟩ := ih (n + 1) a1 z' z (by omega) (by omega) (OKm_sm hO e2) e3 hz (fun c hc => e4 c (h1 c hc)) e5 he
      exact ⟨z2, a2, ee.trans k1, Sm_tr e2 k2, k3⟩
theorem ob1_binary : ob_binary Cpl := by
  intro g a gm am h
  have hC := h
  obtain ⟨d, R, K, T, V, C, pl, tu, ar, ch, cr, an, cv, hB, h0, hR, hK, hT, hI⟩ := h
  have hd := hB.1
  rcases hd with rfl | rfl
  · have hX := OKs_of hK
    have hM : OKm 2 K ar an (upd gm 8 0) am := OKm_of hK
    obtain ⟨z, g', a', x1, x2, x3, x4⟩ := closX (mp := 3) (n0 := 4) (st := 5120) (by decide) (by decide) (by decide) hB hX (by decide)
    obtain ⟨z', am', m1, m2, m3⟩ := b32 (g := upd gm 8 0) (K := K) (st := 5120) (ar := ar) (an := an) 16 fu am 5120 0 (by omega) (fu_gt (by omega)) hM (by decide) (by decide) (fun _ h => h) (fun c h => LC_st h) (by decide)
    have hzz : z = z' := set_ext fun c => (x4 c).trans (m3 c).symm
    refine Or.inl ⟨(nI z, g', a'), (nI z, upd gm 8 0, am'), ?_, ?_, thr_8, rfl, Cpl_fr hC (Sm_mo x2 (by decide) (by decide)) (SmM_tr SmM_8 (SmM_of m2))⟩
    · unfold f_X11_binary
      rw [hB.2.1, if_neg (show ¬ nI 2 = 3 by decide)]
      unfold f_X6_binaryOnes
      rw [show (((1 : Int32) <<< ((10 : Int32) &&& 31)) ||| ((1 : Int32) <<< ((12 : Int32) &&& 31))) = nI 5120 by decide, show f_X6_closure g a 4 (nI 5120) 3 = _ from x1, Option.bind_some, Option.bind_some]
    · unfold f_X12_binary
      rw [h0, if_neg (show ¬ nI 2 = 3 by decide)]
      unfold f_X12_binary_14
      rw [if_pos (le00 (by decide)), hzz]
      exact m1
  · refine Or.inr ⟨(2, g, a), (0, upd gm 8 1, am), ?_, rfl, ?_, thr_8, Cpl_8 hC⟩
    · unfold f_X11_binary
      rw [hB.2.1, if_pos (show nI 3 = 3 from rfl)]
    · unfold f_X12_binary
      rw [h0, if_pos (show nI 3 = 3 from rfl)]
      unfold f_X12_binary_14
      rw [if_neg (by rw [upd_s]; decide)]
