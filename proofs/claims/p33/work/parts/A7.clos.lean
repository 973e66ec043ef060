/-! The images of a set of wider tuples. -/
theorem ans4_loop {k : Nat} {g : xG} {a : xA} {d w X n0 : Nat} {T : Nat → Nat} (hd : d = 2 ∨ d = 3) (hX : X < 2 ^ 31) (hn0 : n0 ≤ 4) (h0 : g 0 = nI d) (hT : ∀ j, j < 4 → dg 32 X j < d ^ w) (hw : w ≤ 3) (hA : ∀ p, p < d ^ w → a (47 + k) p = nI (T p)) :
    ∀ (p r n : Nat), p + r = n0 → p < n → f_X5_answerTuple_7 k g a n (nI X) (nI (nm d (fun q => T (dg 32 X (p + q))) r)) (nI p + -nI 1) = some (nI (nm d (fun q => T (dg 32 X q)) n0))
  | 0, r, n, hp, hn => by
    obtain ⟨n, rfl⟩ := pos_of hn
    have e : r = n0 := by omega
    subst e
    have e1 : nm d (fun q => T (dg 32 X (0 + q))) r = nm d (fun q => T (dg 32 X q)) r := nm_cong fun k _ => by rw [Nat.zero_add]
    rw [e_X5_answerTuple_7, if_pos (show nI 0 + -nI 1 < 0 from m1z), e1]
  | p + 1, r, n, hp, hn => by
    obtain ⟨n, rfl⟩ := pos_of hn
    have h27 := pw3 hd hw
    have hp3 := hT p (by omega)
    rw [e_X5_answerTuple_7, m1p, if_neg (nI_pos (by omega)), onPl hX (by omega), at_in (by omega) (by decide), hA _ hp3, h0]
    simp only [pk_mul, nI_add, z1]
    have e1 : nm d (fun q => T (dg 32 X (p + 1 + q))) r * d + T (dg 32 X p) = nm d (fun q => T (dg 32 X (p + q))) (r + 1) := by
      rw [nm_cons]
      have : nm d (fun q => T (dg 32 X (p + 1 + q))) r = nm d (fun q => T (dg 32 X (p + (q + 1)))) r := nm_cong fun k _ => by
        show T (dg 32 X (p + 1 + k)) = T (dg 32 X (p + (k + 1)))
        rw [show p + 1 + k = p + (k + 1) by omega]
      rw [this]
      rfl
    rw [e1]
    exact ans4_loop hd hX hn0 h0 hT hw hA p (r + 1) n (by omega) (by omega)
theorem ans4 {k : Nat} {g : xG} {a : xA} {d w n0 : Nat} {T x : Nat → Nat} (h0 : g 0 = nI d) (hO : Opr d k w T g a) (hd : d = 2 ∨ d = 3) (hn0 : n0 ≤ 4) :
    f_X5_answerTuple k g a (nI (nm d (fun p => sp d (x p)) w)) (nI n0) = some (nI (apl d w T n0 x)) := by
  have hX := nm_sp_lt hd hO.2.2.2.1 x
  have hdg : ∀ j, j < 4 → dg 32 (nm d (fun p => sp d (x p)) w) j = nm d (fun p => dg d (x p) j) w := fun j hj => nm_sp hd hO.2.2.2.1 x (by omega)
  have := ans4_loop (k := k) (g := g) (a := a) (d := d) (w := w) (X := nm d (fun p => sp d (x p)) w) (n0 := n0) (T := T) hd (by omega) hn0 h0 (fun j hj => by
    rw [hdg j hj]
    exact nm_lt w (fun p _ => dg_lt (by omega) _ _)) hO.2.2.2.1 (fun p hp => (hO.2.2.2.2 p hp).1) n0 0 fu (by omega) (fu_gt (by omega))
  unfold f_X5_answerTuple
  rw [show nm d (fun q => T (dg 32 (nm d (fun p => sp d (x p)) w) (n0 + q))) 0 = 0 from rfl] at this
  simp only [z1, z0, m1s]
  rw [this]
  have e : nm d (fun q => T (dg 32 (nm d (fun p => sp d (x p)) w) q)) n0 = apl d w T n0 x := nm_cong fun j hj => by
    show T (dg 32 (nm d (fun p => sp d (x p)) w) j) = T (nm d (fun p => dg d (x p) j) w)
    rw [hdg j (by omega)]
  rw [e]

theorem img4_loop {k : Nat} {g : xG} {d w m N n0 : Nat} {T mem : Nat → Nat} (hd : d = 2 ∨ d = 3) (hm : m ≤ 27) (h0 : g 0 = nI d) (h2 : g 2 = nI m) (h3 : g 3 = nI w) (hn0 : n0 ≤ 4) (hN : d ^ n0 = N) (hN1 : N ≤ 27) :
    ∀ (r n : Nat) (a : xA) (acc : Nat) (cnt : Nat → Nat), r < n → r ≤ m ^ w → Opr d k w T g a → (∀ i, i < m → a 8 i = nI (sp d (mem i))) → (0 < r → (∀ q, q < w → a 9 q = nI (cnt q) ∧ cnt q < m) ∧ nm m cnt w = m ^ w - r) → acc < 2 ^ N →
    ∃ acc' a', f_X0_images_14 k n g a (nI n0) (nI acc) (nI r) = some (nI acc', g, a') ∧ acc' < 2 ^ N ∧ Sm [] [9] g a g a' ∧
      ∀ c, acc'.testBit c = true ↔ acc.testBit c = true ∨ ∃ y : Nat → Nat, (∀ p, p < w → y p < m) ∧ m ^ w - r ≤ nm m y w ∧ apl d w T n0 (fun p => mem (y p)) = c
  | 0, n, a, acc, cnt, hn, hr, hO, h8, h9, ha => by
    obtain ⟨n, rfl⟩ := pos_of hn
    refine ⟨acc, a, ?_, ha, Sm_rfl, fun c => ⟨Or.inl, ?_⟩⟩
    · rw [e_X0_images_14, if_pos (show nI 0 ≤ 0 from nI_le (Nat.le_refl 0) (by decide))]
    · rintro (h | ⟨y, hy, h1, _⟩)
      · exact h
      · exact absurd (nm_lt w hy) (by omega)
  | r + 1, n, a, acc, cnt, hn, hr, hO, h8, h9, ha => by
    obtain ⟨n, rfl⟩ := pos_of hn
    have hw := hO.2.2.2.1
    have hmw := mw3 hm hw
    obtain ⟨h9a, h9b⟩ := h9 (by omega)
    obtain ⟨cnt', f, e1, e2, e3⟩ := nextC (d := d) (mem := mem) hw hm h0 h2 h3 h8 h9a
    have s1 : Sm [] [9] g a g (upA a 9 f) := Sm_A Sm_rfl (by decide)
    have hO1 := Opr_sm hO s1
    have hl : apl d w T n0 (fun p => mem (cnt p)) < N := by
      rw [← hN]
      exact apl_lt (by omega) (fun p hp => (hO.2.2.2.2 p hp).2)
    obtain ⟨acc', a', h4, h5, h6, h7⟩ := img4_loop hd hm h0 h2 h3 hn0 hN hN1 r n (upA a 9 f) (acc ||| 2 ^ apl d w T n0 (fun p => mem (cnt p))) cnt' (by omega) (by omega) hO1 (fun i hi => by
        rw [upA_n _ _ (by decide)]
        exact h8 i hi) (fun h => by
        refine ⟨fun q hq => ?_, ?_⟩
        · rw [upA_s]
          exact e2 q hq
        · rw [e3 (by omega), h9b]
          omega) (or_lt ha hl)
    refine ⟨acc', a', ?_, h5, Sm_tr s1 h6, fun c => ?_⟩
    · rw [e_X0_images_14, if_neg (show ¬ nI (r + 1) ≤ 0 from nI_nle (by omega) (by omega)), e1]
      show Option.bind (f_X5_answerTuple k g (upA a 9 f) _ _) _ = _
      rw [ans4 h0 hO1 hd hn0]
      show f_X0_images_14 k n g (upA a 9 f) (nI n0) (nI acc ||| ((1 : Int32) <<< (nI _ &&& 31))) (nI (r + 1) + (-1)) = _
      rw [shl_nI (by omega), nI_or, pk_m1]
      exact h4
    · rw [h7 c, or_bit]
      constructor
      · rintro ((h | h) | ⟨y, hy, h1, h2⟩)
        · exact Or.inl h
        · exact Or.inr ⟨cnt, fun p hp => (h9a p hp).2, by omega, h⟩
        · exact Or.inr ⟨y, hy, by omega, h2⟩
      · rintro (h | ⟨y, hy, h1, h2⟩)
        · exact Or.inl (Or.inl h)
        · by_cases he : nm m y w = m ^ w - (r + 1)
          · refine Or.inl (Or.inr ?_)
            have hc : ∀ p, p < w → cnt p = y p := fun p hp => by
              have q1 := nm_dg (d := m) (f := cnt) (by have := hy p hp; omega) w (fun q hq => (h9a q hq).2) p hp
              have q2 := nm_dg (d := m) (f := y) (by have := hy p hp; omega) w hy p hp
              rw [he, ← h9b] at q2
              rw [← q1, q2]
            rw [← h2]
            exact apl_cong (by omega) (fun _ _ => rfl) (fun p hp => by rw [hc p hp])
          · exact Or.inr ⟨y, hy, by omega, h2⟩
theorem images_c4 {d k w s n0 : Nat} {T : Nat → Nat} {g : xG} {a : xA} (hB : Bas d g a) (hO : Opr d k w T g a) (hn0 : n0 ≤ 4) (hN : d ^ n0 ≤ 27) (hs : s < 2 ^ (d ^ n0)) :
    ∃ x g' a', f_X0_images k g a (nI n0) (nI s) = some (nI x, g', a') ∧ x < 2 ^ (d ^ n0) ∧ (∀ c, x.testBit c = true ↔ Img d w T n0 s c) ∧ Sm [2, 3] [8, 9] g a g' a' := by
  have hw := hO.2.2.2.1
  obtain ⟨m, mem, g', a', e1, e2, e3, e4, e5, e6, e7, e8⟩ := beginC (d := d) (s := s) hw (Nat.lt_of_lt_of_le hs (Nat.pow_le_pow_right (by decide) hN)) hB
  have hB' := Bas_sm hB e2
  have hO' := Opr_sm hO e2
  have hmw := mw3 e3 hw
  obtain ⟨x, a2, h1, h2, h3, h4⟩ := img4_loop (T := T) (k := k) (g := g') (mem := mem) hB.1 e3 hB'.2.1 e4 e5 hn0 rfl hN (m ^ w) fu a' 0 (fun _ => 0) (fu_gt (by omega)) (by omega) hO' (fun i hi => (e6 i hi).2.2) (fun h => by
    refine ⟨fun q hq => ⟨e8 q hq, ?_⟩, ?_⟩
    · rcases Nat.eq_zero_or_pos m with h0 | h0
      · subst h0
        rw [Nat.zero_pow hO.2.2.1] at h
        omega
      · exact h0
    · rw [nm_zero]
      omega) (Nat.two_pow_pos _)
  refine ⟨x, g', a2, ?_, h2, fun c => ?_, Sm_tr e2 (Sm_mo h3 (by decide) (by decide))⟩
  · unfold f_X0_images t_X5_placeCount
    rw [hO.2.1, e1, Option.bind_some, z0]
    exact h1
  · rw [h4 c, Nat.zero_testBit]
    constructor
    · rintro (h | ⟨y, hy, _, h2⟩)
      · cases h
      · exact ⟨fun p => mem (y p), fun p hp => (e6 _ (hy p hp)).2.1, h2⟩
    · rintro ⟨z, hz, h2⟩
      have : ∀ p, ∃ i, p < w → i < m ∧ mem i = z p := fun p => by
        by_cases hp : p < w
        · obtain ⟨i, h1, h2⟩ := e7 (z p) (hz p hp)
          exact ⟨i, fun _ => ⟨h1, h2⟩⟩
        · exact ⟨0, fun h => absurd h hp⟩
      refine Or.inr ⟨fun p => Classical.choose (this p), fun p hp => (Classical.choose_spec (this p) hp).1, by omega, ?_⟩
      rw [← h2]
      exact apl_cong (by have := hB.1; omega) (fun _ _ => rfl) (fun p hp => (Classical.choose_spec (this p) hp).2)

theorem images_i4 {d k w s n0 : Nat} {T : Nat → Nat} {g : xG} {a : xA} (hB : Bas d g a) (hO : Opr d k w T g a) (hn0 : n0 ≤ 4) (hN : d ^ n0 ≤ 27) (hs : s < 2 ^ (d ^ n0)) :
    ∃ g' a', f_X0_images k g a (nI n0) (nI s) = some (nI (im d w T n0 s), g', a') ∧ Sm [2, 3] [8, 9] g a g' a' := by
  obtain ⟨x, g', a', e1, e2, e3, e4⟩ := images_c4 hB hO hn0 hN hs
  have hd : 0 < d := by have := hB.1; omega
  have : x = im d w T n0 s := set_ext fun i => (e3 i).trans (im_bit hd (fun p hp => (hO.2.2.2.2 p hp).2) i).symm
  subst this
  exact ⟨g', a', e1, e4⟩
theorem strays_i4 {d k w s n0 : Nat} {T : Nat → Nat} {g : xG} {a : xA} (hB : Bas d g a) (hO : Opr d k w T g a) (hn0 : n0 ≤ 4) (hN : d ^ n0 ≤ 27) (hs : s < 2 ^ (d ^ n0)) :
    ∃ g' a', f_X0_strays k g a (nI n0) (nI s) = some (nI (bdiff (im d w T n0 s) s), g', a') ∧ Sm [2, 3] [8, 9] g a g' a' := by
  have hd : 0 < d := by have := hB.1; omega
  have h27 := hN
  have e1 : ((1 : Int32) <<< ((t_X4_power g a (nI n0)) &&& 31)) - 1 = nI (2 ^ (d ^ n0) - 1) := by
    rw [power_B hB (by omega), shl_nI (by omega)]
    exact pk_sub (b := 1) (Nat.two_pow_pos _)
  have hsl : s < 2 ^ 31 := Nat.lt_of_lt_of_le hs (Nat.pow_le_pow_right (by decide) (by omega))
  have hfl : 2 ^ (d ^ n0) - 1 < 2 ^ 31 := Nat.lt_of_lt_of_le (Nat.sub_lt (Nat.two_pow_pos _) (by decide)) (Nat.pow_le_pow_right (by decide) (by omega))
  unfold f_X0_strays
  rw [e1]
  by_cases h : s = 2 ^ (d ^ n0) - 1
  · have hz : bdiff (im d w T n0 s) s = 0 := bdiff_0.mpr fun i hi => by
      have hi2 := bit_lt (im_lt d w T n0 s) hi
      rw [h, Nat.testBit_two_pow_sub_one]
      exact decide_eq_true hi2
    refine ⟨g, a, ?_, Sm_rfl⟩
    rw [if_pos (by rw [← h]), hz]
    rfl
  · obtain ⟨g', a', e2, e3⟩ := images_i4 hB hO hn0 hN hs
    refine ⟨g', a', ?_, e3⟩
    rw [if_neg (fun e => h ((nI_eq hsl hfl).mp e)), e2, Option.bind_some]
    show some (nI (im d w T n0 s) &&& (nI s ^^^ (-1)), g', a') = _
    rw [nI_diff]
/-! The least set with some tuples that some operations keep, the class. -/
def LC (d K mp n0 st : Nat) (ar : Nat → Nat) (an : Nat → Nat → Nat) (c : Nat) : Prop := ∀ S : Nat → Prop, (∀ c, st.testBit c = true → S c) → (∀ k, k < K → ar k ≤ mp → ∀ x : Nat → Nat, (∀ p, p < ar k → S (x p)) → S (apl d (ar k) (an k) n0 x)) → S c
theorem LC_st {d K mp n0 st : Nat} {ar : Nat → Nat} {an : Nat → Nat → Nat} {c : Nat} (h : st.testBit c = true) : LC d K mp n0 st ar an c := fun _ h1 _ => h1 c h
theorem LC_op {d K mp n0 st : Nat} {ar : Nat → Nat} {an : Nat → Nat → Nat} {k : Nat} (hk : k < K) (hm : ar k ≤ mp) {x : Nat → Nat} (h : ∀ p, p < ar k → LC d K mp n0 st ar an (x p)) : LC d K mp n0 st ar an (apl d (ar k) (an k) n0 x) := fun S h1 h2 => h2 k hk hm x (fun p hp => h p hp S h1 h2)
/-- a set with them, of what comes, and closed: just what comes -/
theorem LC_eq {d K mp n0 st z : Nat} {ar : Nat → Nat} {an : Nat → Nat → Nat} (h1 : ∀ c, st.testBit c = true → z.testBit c = true) (h2 : ∀ c, z.testBit c = true → LC d K mp n0 st ar an c) (h3 : ∀ k, k < K → ar k ≤ mp → ∀ c, Img d (ar k) (an k) n0 z c → z.testBit c = true) (c : Nat) : z.testBit c = true ↔ LC d K mp n0 st ar an c :=
  ⟨h2 c, fun h => h (fun c => z.testBit c = true) h1 (fun k hk hm x hx => h3 k hk hm _ ⟨x, hx, rfl⟩)⟩
theorem cl20 {d K mp n0 st N : Nat} {ar : Nat → Nat} {an : Nat → Nat → Nat} (hn0 : n0 ≤ 4) (hN : d ^ n0 = N) (hN27 : N ≤ 27) (hmp : mp < 4) {K6 : xG → xA → Int32 → Int32 → Int32 → Int32 → Option (Int32 × xG × xA)} {x5 : Int32} {b : Nat} (hb : b < 2 ^ N) :
    ∀ (r k n : Nat) (g : xG) (a : xA) (z : Nat), k + r = K → r < n → Bas d g a → OKs d K ar an g a → z < 2 ^ N → (∀ c, b.testBit c = true → z.testBit c = true) → (∀ c, z.testBit c = true → LC d K mp n0 st ar an c) → (z = b → ∀ k', k' < k → ar k' ≤ mp → bdiff (im d (ar k') (an k') n0 b) b = 0) →
    ∃ z' g' a', f_X6_closure_20 K6 n g a (nI n0) (nI mp) (nI z) x5 (nI b) (nI k) = (if z' = b then some (nI z', g', a') else K6 g' a' (nI n0) (nI mp) (nI z') (x5 + 1)) ∧ Sm [2, 3] [8, 9] g a g' a' ∧ z' < 2 ^ N ∧ (∀ c, b.testBit c = true → z'.testBit c = true) ∧ (∀ c, z'.testBit c = true → LC d K mp n0 st ar an c) ∧ (z' = b → ∀ k', k' < K → ar k' ≤ mp → bdiff (im d (ar k') (an k') n0 b) b = 0)
  | 0, k, n, g, a, z, hk, hn, hB, hO, hz, h1, h2, h3 => by
    obtain ⟨n, rfl⟩ := pos_of hn
    have hK := hO.1
    have e : k = K := by omega
    subst e
    have p31 : 2 ^ N ≤ 2 ^ 27 := Nat.pow_le_pow_right (by decide) hN27
    refine ⟨z, g, a, ?_, Sm_rfl, hz, h1, h2, h3⟩
    rw [e_X6_closure_20, hO.2.1, if_pos (nI_le (Nat.le_refl _) (by omega))]
    by_cases he : z = b
    · rw [if_pos he, if_pos (by rw [he])]
    · rw [if_neg he, if_neg (fun h => he ((nI_eq (by omega) (by omega)).mp h))]
  | r + 1, k, n, g, a, z, hk, hn, hB, hO, hz, h1, h2, h3 => by
    obtain ⟨n, rfl⟩ := pos_of hn
    have hd := hB.1
    have hd0 : 0 < d := by omega
    have hK := hO.1
    have hkK : k < K := by omega
    have hOk := hO.2.2 k hkK
    have har : ar k ≤ 3 := hOk.2.2.2.1
    have er : f_X6_closure_20 K6 (n + 1) g a (nI n0) (nI mp) (nI z) x5 (nI b) (nI k) = (if nI mp < nI (ar k) then f_X6_closure_20 K6 n g a (nI n0) (nI mp) (nI z) x5 (nI b) (nI (k + 1)) else Option.bind (f_X0_strays k g a (nI n0) (nI z)) (fun u7 => f_X6_closure_20 K6 n u7.2.1 u7.2.2 (nI n0) (nI mp) (nI z ||| u7.1) x5 (nI b) (nI (k + 1)))) := by
      rw [e_X6_closure_20, hO.2.1, if_neg (nI_ge hkK (by omega)), getF_1 hkK hK, om_s, show nI k + 1 = nI (k + 1) from nI_1 k]
      unfold t_X5_placeCount
      rw [hOk.2.1]
    rw [er]
    by_cases hm : mp < ar k
    · rw [if_pos (nI_lt hm (by omega))]
      exact cl20 hn0 hN hN27 hmp hb r (k + 1) n g a z (by omega) (by omega) hB hO hz h1 h2 (fun q k' q1 q2 => by
        by_cases he : k' = k
        · rw [he] at q2
          omega
        · exact h3 q k' (by omega) q2)
    · rw [if_neg (nI_nlt (by omega) (by omega))]
      obtain ⟨g1, a1, e1, e2⟩ := strays_i4 hB hOk hn0 (by omega) (s := z) (by rw [hN]; exact hz)
      rw [e1, Option.bind_some]
      dsimp only
      rw [nI_or, or_bd]
      have hTl : ∀ p, p < d ^ ar k → an k p < d := fun p hp => (hOk.2.2.2.2 p hp).2
      have hil := im_lt d (ar k) (an k) n0 z
      rw [hN] at hil
      obtain ⟨z', g2, a2, k1, k2, k3⟩ := cl20 (st := st) hn0 hN hN27 hmp (K6 := K6) (x5 := x5) hb r (k + 1) n g1 a1 (z ||| im d (ar k) (an k) n0 z) (by omega) (by omega) (Bas_sm hB e2) (OKs_sm hO e2) (Nat.or_lt_two_pow hz hil) (fun c q => or_l (h1 c q)) (fun c q => by
        rw [Nat.testBit_or, Bool.or_eq_true, im_bit hd0 hTl] at q
        rcases q with q | ⟨x, x1, rfl⟩
        · exact h2 c q
        · exact LC_op hkK (by omega) (fun p hp => h2 _ (x1 p hp))) (fun q k' q1 q2 => by
        have hzb : z = b := by
          refine set_ext fun i => ⟨fun hi => ?_, h1 i⟩
          rw [← q]
          exact or_l hi
        by_cases he : k' = k
        · rw [he]
          refine bdiff_0.mpr (fun i hi => ?_)
          rw [← hzb] at hi
          rw [← q]
          exact or_r hi
        · exact h3 hzb k' (by omega) q2)
      exact ⟨z', g2, a2, k1, Sm_tr e2 k2, k3⟩
theorem cl6 {d K mp n0 st N : Nat} {ar : Nat → Nat} {an : Nat → Nat → Nat} (hn0 : n0 ≤ 4) (hN : d ^ n0 = N) (hN27 : N ≤ 27) (hmp : mp < 4) :
    ∀ (r q n : Nat) (g : xG) (a : xA) (b : Nat), q + r = 28 → r < n → N - pc b N + q ≤ 27 → Bas d g a → OKs d K ar an g a → b < 2 ^ N → (∀ c, st.testBit c = true → b.testBit c = true) → (∀ c, b.testBit c = true → LC d K mp n0 st ar an c) →
    ∃ z g' a', f_X6_closure_6 n g a (nI n0) (nI mp) (nI b) (nI q) = some (nI z, g', a') ∧ Sm [2, 3] [8, 9] g a g' a' ∧ z < 2 ^ N ∧ ∀ c, z.testBit c = true ↔ LC d K mp n0 st ar an c
  | 0, q, n, g, a, b, hq, hn, hms, hB, hO, hb, h1, h2 => by omega
  | r + 1, q, n, g, a, b, hq, hn, hms, hB, hO, hb, h1, h2 => by
    obtain ⟨n, rfl⟩ := pos_of hn
    have hd := hB.1
    have hd0 : 0 < d := by omega
    have hK := hO.1
    obtain ⟨z', g1, a1, e1, e2, e3, e4, e5, e6⟩ := cl20 (st := st) hn0 hN hN27 hmp (K6 := f_X6_closure_6 n) (x5 := nI q) hb K 0 fu g a b (by omega) (fu_gt (by omega)) hB hO hb (fun _ h => h) h2 (fun _ k' h => by omega)
    rw [show nI q + 1 = nI (q + 1) from nI_1 q] at e1
    have ee : f_X6_closure_6 (n + 1) g a (nI n0) (nI mp) (nI b) (nI q) = (if z' = b then some (nI z', g1, a1) else f_X6_closure_6 n g1 a1 (nI n0) (nI mp) (nI z') (nI (q + 1))) := by
      rw [e_X6_closure_6, if_neg (show ¬ (27 : Int32) < nI q from nI_nlt (a := 27) (b := q) (by omega) (by decide))]
      exact e1
    by_cases he : z' = b
    · refine ⟨z', g1, a1, by rw [ee, if_pos he], e2, e3, fun c => LC_eq (fun c hc => e4 c (h1 c hc)) e5 (fun k hk hm c hc => ?_) c⟩
      have := bdiff_0.mp (e6 he k hk hm) c
      rw [he] at hc ⊢
      exact this ((im_bit hd0 (fun p hp => ((hO.2.2 k hk).2.2.2.2 p hp).2) c).mpr hc)
    · obtain ⟨i, i1, i2⟩ := sub_ne e4 (fun h => he h.symm)
      have hg := pc_lt e4 i1 i2 N (bit_lt e3 i2)
      have hl := pc_le z' N
      obtain ⟨z, g2, a2, k1, k2, k3⟩ := cl6 (st := st) hn0 hN hN27 hmp r (q + 1) n g1 a1 z' (by omega) (by omega) (by omega) (Bas_sm hB e2) (OKs_sm hO e2) e3 (fun c hc => e4 c (h1 c hc)) e5
      exact ⟨z, g2, a2, by rw [ee, if_neg he]; exact k1, Sm_tr e2 k2, k3⟩
theorem closX {d K mp n0 st : Nat} {ar : Nat → Nat} {an : Nat → Nat → Nat} {g : xG} {a : xA} (hn0 : n0 ≤ 4) (hN27 : d ^ n0 ≤ 27) (hmp : mp < 4) (hB : Bas d g a) (hO : OKs d K ar an g a) (hst : st < 2 ^ (d ^ n0)) :
    ∃ z g' a', f_X6_closure g a (nI n0) (nI st) (nI mp) = some (nI z, g', a') ∧ Sm [2, 3] [8, 9] g a g' a' ∧ z < 2 ^ (d ^ n0) ∧ ∀ c, z.testBit c = true ↔ LC d K mp n0 st ar an c :=
  cl6 hn0 rfl hN27 hmp 28 0 fu g a st rfl (fu_gt (by omega)) (by omega) hB hO hst (fun _ h => h) (fun c h => LC_st h)
