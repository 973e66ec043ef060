/-! The images of a set under an operation: the class. -/
theorem dg_big {d c p : Nat} (hd : 0 < d) (hc : c < d ^ p) : dg d c p = 0 := by
  unfold dg
  rw [Nat.div_eq_of_lt hc, Nat.zero_mod]
theorem or_bit (x c0 c : Nat) : (x ||| 2 ^ c0).testBit c = true ↔ x.testBit c = true ∨ c0 = c := by
  rw [Nat.testBit_or, Bool.or_eq_true, Nat.testBit_two_pow]
  simp
theorem or_lt {x c0 N : Nat} (hx : x < 2 ^ N) (hc : c0 < N) : x ||| 2 ^ c0 < 2 ^ N := Nat.or_lt_two_pow hx (Nat.pow_lt_pow_right (by decide) hc)
theorem bit1_nI {c : Nat} (h : c < 31) : (nI 1 <<< (nI c &&& nI 31)) = nI (2 ^ c) := shl_nI h
theorem img_loop {k : Nat} {g : xG} {d w m N n0 : Nat} {T mem : Nat → Nat} (hd : d = 2 ∨ d = 3) (hm : m ≤ 27) (h0 : g 0 = nI d) (h2 : g 2 = nI m) (h3 : g 3 = nI w) (hn0 : n0 ≤ 3) (hN : d ^ n0 = N) (hN1 : N ≤ 27) :
    ∀ (r n : Nat) (a : xA) (acc : Nat) (cnt : Nat → Nat), r < n → r ≤ m ^ w → Opr d k w T g a → (∀ i, i < m → a 8 i = nI (sp d (mem i))) → (0 < r → (∀ q, q < w → a 9 q = nI (cnt q) ∧ cnt q < m) ∧ nm m cnt w = m ^ w - r) → acc < 2 ^ N →
    ∃ acc' a', f_X0_images_14 k n g a (nI n0) (nI acc) (nI r) = some (nI acc', g, a') ∧ acc' < 2 ^ N ∧ Sm [] [9] g a g a' ∧
      ∀ c, acc'.testBit c = true ↔ acc.testBit c = true ∨ ∃ y : Nat → Nat, (∀ p, p < w → y p < m) ∧ m ^ w - r ≤ nm m y w ∧ apl d w T n0 (fun p => mem (y p)) = c
  | 0, n, a, acc, cnt, hn, hr, hO, h8, h9, ha => by
    obtain ⟨n, rfl⟩ := pos_of hn
    refine ⟨acc, a, ?_, ha, Sm_rfl, fun c => ⟨Or.inl, ?_⟩⟩
    · rw [e_X0_images_14, if_pos (show nI 0 ≤ 0 from nI_le (Nat.le_refl 0) (by decide))]
    · rintro (h | ⟨y, hy, h1, _⟩)
      · exact h
      · exact absurd (nm_lt w hy) (by omega)
  | r + 1, n, a, acc, cnt, hn, hr, hO, h8, h9, ha => by
    obtain ⟨n, rfl⟩ := pos_of hn
    have hw := hO.2.2.2.1
    have hmw := mw3 hm hw
    obtain ⟨h9a, h9b⟩ := h9 (by omega)
    obtain ⟨cnt', f, e1, e2, e3⟩ := nextC (d := d) (mem := mem) hw hm h0 h2 h3 h8 h9a
    have s1 : Sm [] [9] g a g (upA a 9 f) := Sm_A Sm_rfl (by decide)
    have hO1 := Opr_sm hO s1
    have hl : apl d w T n0 (fun p => mem (cnt p)) < N := by
      rw [← hN]
      exact apl_lt (by omega) (fun p hp => (hO.2.2.2.2 p hp).2)
    obtain ⟨acc', a', h4, h5, h6, h7⟩ := img_loop hd hm h0 h2 h3 hn0 hN hN1 r n (upA a 9 f) (acc ||| 2 ^ apl d w T n0 (fun p => mem (cnt p))) cnt' (by omega) (by omega) hO1 (fun i hi => by
        rw [upA_n _ _ (by decide)]
        exact h8 i hi) (fun h => by
        refine ⟨fun q hq => ?_, ?_⟩
        · rw [upA_s]
          exact e2 q hq
        · rw [e3 (by omega), h9b]
          omega) (or_lt ha hl)
    refine ⟨acc', a', ?_, h5, Sm_tr s1 h6, fun c => ?_⟩
    · rw [e_X0_images_14, if_neg (show ¬ nI (r + 1) ≤ 0 from nI_nle (by omega) (by omega)), e1]
      show Option.bind (f_X5_answerTuple k g (upA a 9 f) _ _) _ = _
      rw [ansT h0 hO1 hd hn0]
      show f_X0_images_14 k n g (upA a 9 f) (nI n0) (nI acc ||| ((1 : Int32) <<< (nI _ &&& 31))) (nI (r + 1) + (-1)) = _
      rw [shl_nI (by omega), nI_or, pk_m1]
      exact h4
    · rw [h7 c, or_bit]
      constructor
      · rintro ((h | h) | ⟨y, hy, h1, h2⟩)
        · exact Or.inl h
        · exact Or.inr ⟨cnt, fun p hp => (h9a p hp).2, by omega, h⟩
        · exact Or.inr ⟨y, hy, by omega, h2⟩
      · rintro (h | ⟨y, hy, h1, h2⟩)
        · exact Or.inl (Or.inl h)
        · by_cases he : nm m y w = m ^ w - (r + 1)
          · refine Or.inl (Or.inr ?_)
            have hc : ∀ p, p < w → cnt p = y p := fun p hp => by
              have q1 := nm_dg (d := m) (f := cnt) (by have := hy p hp; omega) w (fun q hq => (h9a q hq).2) p hp
              have q2 := nm_dg (d := m) (f := y) (by have := hy p hp; omega) w hy p hp
              rw [he, ← h9b] at q2
              rw [← q1, q2]
            rw [← h2]
            exact apl_cong (by omega) (fun _ _ => rfl) (fun p hp => by rw [hc p hp])
          · exact Or.inr ⟨y, hy, by omega, h2⟩
theorem bc66 {w m : Nat} (hw : w ≤ 3) : ∀ (r p n : Nat) (g : xG) (a : xA), p + r = w → r < n → g 2 = nI m → g 3 = nI w →
    ∃ f, f_X0_beginChoices_66 n g a (nI (m ^ p)) (nI p) = some (nI (m ^ w), g, upA a 9 f) ∧ (∀ q, q < p → f q = a 9 q) ∧ ∀ q, p ≤ q → q < w → f q = nI 0
  | 0, p, n, g, a, hp, hn, h2, h3 => by
    obtain ⟨n, rfl⟩ := pos_of hn
    have e : p = w := by omega
    subst e
    refine ⟨a 9, ?_, fun _ _ => rfl, fun q h1 h2 => by omega⟩
    rw [e_X0_beginChoices_66, h3, if_pos (nI_le (by omega) (by omega)), upA_id]
  | r + 1, p, n, g, a, hp, hn, h2, h3 => by
    obtain ⟨n, rfl⟩ := pos_of hn
    obtain ⟨f, e1, e2, e3⟩ := bc66 (m := m) hw r (p + 1) n g (upA a 9 (upd (a 9) p (nI 0))) (by omega) (by omega) h2 h3
    refine ⟨f, ?_, fun q hq => ?_, fun q h1 h2 => ?_⟩
    · rw [e_X0_beginChoices_66, h3, if_neg (nI_ge (by omega) (by omega)), put_in (by omega) (by decide), h2]
      simp only [z0, z1, z2, z3, z4, z5, z6, z7, z8, z9, z16, z27, z31, z32, z36, z60, nI_add, pk_mul, m1s]
      rw [← Nat.pow_succ, e1, upA_2]
    · rw [e2 q (by omega), upA_s, upd_n _ _ (by omega)]
    · by_cases hq : q = p
      · rw [hq, e2 p (by omega), upA_s, upd_s]
      · exact e3 q (by omega) h2
theorem bc7 {d w s : Nat} (hw : w ≤ 3) (hs : s < 2 ^ 27) : ∀ (r c n m : Nat) (mem : Nat → Nat) (g : xG) (a : xA), c + r = 27 → r < n → g 2 = nI m → m ≤ c → Bas d g a → (∀ i, i < m → mem i < c ∧ s.testBit (mem i) = true ∧ a 8 i = nI (sp d (mem i))) → (∀ x, x < c → s.testBit x = true → ∃ i, i < m ∧ mem i = x) →
    ∃ (m' : Nat) (mem' : Nat → Nat) (g' : xG) (a' : xA), f_X0_beginChoices_7 n g a (nI w) (nI s) (nI c) = some (nI (m' ^ w), g', a') ∧ Sm [2, 3] [8, 9] g a g' a' ∧ m' ≤ 27 ∧ g' 2 = nI m' ∧ g' 3 = nI w ∧ (∀ i, i < m' → mem' i < 27 ∧ s.testBit (mem' i) = true ∧ a' 8 i = nI (sp d (mem' i))) ∧ (∀ x, s.testBit x = true → ∃ i, i < m' ∧ mem' i = x) ∧ ∀ q, q < w → a' 9 q = nI 0
  | 0, c, n, m, mem, g, a, hc, hn, h2, hm, hB, h8, h9 => by
    obtain ⟨n, rfl⟩ := pos_of hn
    have e : c = 27 := by omega
    subst e
    obtain ⟨f, e1, e2, e3⟩ := bc66 (m := m) hw w 0 fu (upd g 3 (nI w)) a (by omega) (fu_gt (by omega)) ((upd_n _ _ (by decide)).trans h2) (upd_s ..)
    refine ⟨m, mem, upd g 3 (nI w), upA a 9 f, ?_, Sm_A (Sm_G Sm_rfl (by decide)) (by decide), hm, (upd_n _ _ (by decide)).trans h2, upd_s .., fun i hi => ?_, fun x hx => h9 x (bit_lt hs hx) hx, fun q hq => ?_⟩
    · rw [e_X0_beginChoices_7, if_pos (show (27 : Int32) ≤ nI 27 from nI_le (Nat.le_refl 27) (by decide))]
      exact e1
    · rw [upA_n _ _ (by decide)]
      exact h8 i hi
    · rw [upA_s]
      exact e3 q (by omega) hq
  | r + 1, c, n, m, mem, g, a, hc, hn, h2, hm, hB, h8, h9 => by
    obtain ⟨n, rfl⟩ := pos_of hn
    rw [e_X0_beginChoices_7, if_neg (show ¬ (27 : Int32) ≤ nI c from nI_ge (a := c) (b := 27) (by omega) (by decide)), isIn_nI (by omega) (by omega)]
    cases hb : s.testBit c with
    | false =>
      rw [if_pos (by decide), show nI c + 1 = nI (c + 1) from nI_1 c]
      exact bc7 hw hs r (c + 1) n m mem g a (by omega) (by omega) h2 (by omega) hB (fun i hi => ⟨by have := (h8 i hi).1; omega, (h8 i hi).2⟩) (fun x hx hb1 => by
        by_cases hxc : x = c
        · rw [hxc, hb] at hb1; cases hb1
        · exact h9 x (by omega) hb1)
    | true =>
      rw [if_neg (by decide), show nI c + 1 = nI (c + 1) from nI_1 c]
      have et : t_X4_spread g a (nI c) = nI (sp d c) := by
        unfold t_X4_spread
        rw [at_in (by omega) (by decide), hB.2.2.2 c (by omega)]
      rw [et, h2, put_in (by omega) (by decide), show nI m + 1 = nI (m + 1) from nI_1 m]
      have s1 : Sm [2, 3] [8, 9] g a (upd g 2 (nI (m + 1))) (upA a 8 (upd (a 8) m (nI (sp d c)))) := Sm_A (Sm_G Sm_rfl (by decide)) (by decide)
      obtain ⟨m', mem', g', a', q1, q2, q3, q4⟩ := bc7 hw hs r (c + 1) n (m + 1) (fun i => if i = m then c else mem i) (upd g 2 (nI (m + 1))) (upA a 8 (upd (a 8) m (nI (sp d c)))) (by omega) (by omega) (upd_s ..) (by omega) (Bas_sm hB s1) (fun i hi => by
        rw [upA_s]
        by_cases him : i = m
        · rw [if_pos him, him, upd_s]
          exact ⟨by omega, hb, rfl⟩
        · rw [if_neg him, upd_n _ _ him]
          have := h8 i (by omega)
          exact ⟨by omega, this.2⟩) (fun x hx hb1 => by
        by_cases hxc : x = c
        · exact ⟨m, by omega, by rw [if_pos rfl, hxc]⟩
        · obtain ⟨i, h1, h2⟩ := h9 x (by omega) hb1
          exact ⟨i, by omega, by rw [if_neg (by omega), h2]⟩)
      exact ⟨m', mem', g', a', q1, Sm_tr s1 q2, q3, q4⟩
theorem beginC {d w s : Nat} {g : xG} {a : xA} (hw : w ≤ 3) (hs : s < 2 ^ 27) (hB : Bas d g a) :
    ∃ (m' : Nat) (mem' : Nat → Nat) (g' : xG) (a' : xA), f_X0_beginChoices g a (nI w) (nI s) = some (nI (m' ^ w), g', a') ∧ Sm [2, 3] [8, 9] g a g' a' ∧ m' ≤ 27 ∧ g' 2 = nI m' ∧ g' 3 = nI w ∧ (∀ i, i < m' → mem' i < 27 ∧ s.testBit (mem' i) = true ∧ a' 8 i = nI (sp d (mem' i))) ∧ (∀ x, s.testBit x = true → ∃ i, i < m' ∧ mem' i = x) ∧ ∀ q, q < w → a' 9 q = nI 0 := by
  have s1 : Sm [2, 3] [8, 9] g a (upd g 2 (nI 0)) a := Sm_G Sm_rfl (by decide)
  obtain ⟨m', mem', g', a', q1, q2, q3⟩ := bc7 (d := d) (s := s) hw hs 27 0 fu 0 (fun _ => 0) (upd g 2 (nI 0)) a (by omega) (fu_gt (by omega)) (upd_s ..) (by omega) (Bas_sm hB s1) (fun i hi => by omega) (fun x hx => by omega)
  exact ⟨m', mem', g', a', q1, Sm_tr s1 q2, q3⟩
theorem images_c {d k w s n0 : Nat} {T : Nat → Nat} {g : xG} {a : xA} (hB : Bas d g a) (hO : Opr d k w T g a) (hn0 : n0 ≤ 3) (hs : s < 2 ^ (d ^ n0)) :
    ∃ x g' a', f_X0_images k g a (nI n0) (nI s) = some (nI x, g', a') ∧ x < 2 ^ (d ^ n0) ∧ (∀ c, x.testBit c = true ↔ Img d w T n0 s c) ∧ Sm [2, 3] [8, 9] g a g' a' := by
  have hw := hO.2.2.2.1
  have hN := pw3 hB.1 hn0
  obtain ⟨m, mem, g', a', e1, e2, e3, e4, e5, e6, e7, e8⟩ := beginC (d := d) (s := s) hw (Nat.lt_of_lt_of_le hs (Nat.pow_le_pow_right (by decide) hN)) hB
  have hB' := Bas_sm hB e2
  have hO' := Opr_sm hO e2
  have hmw := mw3 e3 hw
  obtain ⟨x, a2, h1, h2, h3, h4⟩ := img_loop (T := T) (k := k) (g := g') (mem := mem) hB.1 e3 hB'.2.1 e4 e5 hn0 rfl hN (m ^ w) fu a' 0 (fun _ => 0) (fu_gt (by omega)) (by omega) hO' (fun i hi => (e6 i hi).2.2) (fun h => by
    refine ⟨fun q hq => ⟨e8 q hq, ?_⟩, ?_⟩
    · rcases Nat.eq_zero_or_pos m with h0 | h0
      · subst h0
        rw [Nat.zero_pow hO.2.2.1] at h
        omega
      · exact h0
    · rw [nm_zero]
      omega) (Nat.two_pow_pos _)
  refine ⟨x, g', a2, ?_, h2, fun c => ?_, Sm_tr e2 (Sm_mo h3 (by decide) (by decide))⟩
  · unfold f_X0_images t_X5_placeCount
    rw [hO.2.1, e1, Option.bind_some, z0]
    exact h1
  · rw [h4 c, Nat.zero_testBit]
    constructor
    · rintro (h | ⟨y, hy, _, h2⟩)
      · cases h
      · exact ⟨fun p => mem (y p), fun p hp => (e6 _ (hy p hp)).2.1, h2⟩
    · rintro ⟨z, hz, h2⟩
      have : ∀ p, ∃ i, p < w → i < m ∧ mem i = z p := fun p => by
        by_cases hp : p < w
        · obtain ⟨i, h1, h2⟩ := e7 (z p) (hz p hp)
          exact ⟨i, fun _ => ⟨h1, h2⟩⟩
        · exact ⟨0, fun h => absurd h hp⟩
      refine Or.inr ⟨fun p => Classical.choose (this p), fun p hp => (Classical.choose_spec (this p) hp).1, by omega, ?_⟩
      rw [← h2]
      exact apl_cong (by have := hB.1; omega) (fun _ _ => rfl) (fun p hp => (Classical.choose_spec (this p) hp).2)
