/-! What an operation keeps is closed by it, what breaks is none of it. -/
theorem lo_is {y : Nat} : ∀ (r p : Nat), (lo y p r = -1 ∧ ∀ i, p ≤ i → i < p + r → y.testBit i = false) ∨ ∃ i, p ≤ i ∧ i < p + r ∧ y.testBit i = true ∧ lo y p r = nI i
  | 0, p => Or.inl ⟨rfl, fun i h1 h2 => by omega⟩
  | r + 1, p => by
    cases hb : y.testBit p with
    | true => exact Or.inr ⟨p, Nat.le_refl _, by omega, hb, by show (if y.testBit p then nI p else lo y (p + 1) r) = nI p; rw [hb, if_pos rfl]⟩
    | false =>
      have e : lo y p (r + 1) = lo y (p + 1) r := by
        show (if y.testBit p then nI p else lo y (p + 1) r) = _
        rw [hb, if_neg (by decide)]
      rw [e]
      rcases lo_is r (p + 1) with ⟨h1, h2⟩ | ⟨i, h1, h2, h3, h4⟩
      · refine Or.inl ⟨h1, fun i h3 h4 => ?_⟩
        by_cases hi : i = p
        · rw [hi, hb]
        · exact h2 i (by omega) (by omega)
      · exact Or.inr ⟨i, by omega, by omega, h3, h4⟩
theorem clo_s {d k w n0 N : Nat} {T : Nat → Nat} (hd : d = 2 ∨ d = 3) (hn0 : n0 ≤ 3) (hN : d ^ n0 = N) : ∀ (r s : Nat), N - pc s N ≤ r → s < 2 ^ N → ∃ z, z < 2 ^ N ∧ (∀ i, s.testBit i = true → z.testBit i = true) ∧ (∀ i, (im d w T n0 s).testBit i = true → z.testBit i = true) ∧ (bdiff (im d w T n0 s) s = 0 → z = s) ∧
    (∀ (n x5 : Nat) (g : xG) (a : xA), r < n → x5 + r ≤ 27 → Bas d g a → Opr d k w T g a → ∃ g' a', f_X0_closure_6 k n g a (nI n0) (nI s) (nI x5) = some (nI z, g', a') ∧ Sm [2, 3] [8, 9] g a g' a')
  | r, s, hr, hs => by
    have h27 := pw3 hd hn0
    rw [hN] at h27
    have hbl : bdiff (im d w T n0 s) s < 2 ^ N := bdiff_le _ _ (hN ▸ im_lt d w T n0 s)
    have hbl2 : bdiff (im d w T n0 s) s < 2 ^ 31 := Nat.lt_of_lt_of_le hbl (Nat.pow_le_pow_right (by decide) (by omega))
    by_cases h : bdiff (im d w T n0 s) s = 0
    · refine ⟨s, hs, fun _ h => h, bdiff_0.mp h, fun _ => rfl, fun n x5 g a hn hx hB hO => ?_⟩
      obtain ⟨n, rfl⟩ := pos_of hn
      obtain ⟨g', a', e1, e2⟩ := strays_i hB hO hn0 (s := s) (by rw [hN]; exact hs)
      refine ⟨g', a', ?_, e2⟩
      rw [e_X0_closure_6, if_neg (show ¬ (27 : Int32) < nI x5 from nI_nlt (a := 27) (b := x5) (by omega) (by decide)), e1, Option.bind_some, if_pos (by rw [h]; rfl)]
    · have hg := bd_grow (n := N) (hN ▸ im_lt d w T n0 s) h
      have hle := pc_le (s ||| im d w T n0 s) N
      obtain ⟨r, rfl⟩ : ∃ r', r = r' + 1 := ⟨r - 1, by omega⟩
      have hs2 : s ||| im d w T n0 s < 2 ^ N := Nat.or_lt_two_pow hs (hN ▸ im_lt d w T n0 s)
      obtain ⟨z, hz0, hz1, hz2, hz3, hz4⟩ := clo_s (k := k) (T := T) (w := w) hd hn0 hN r (s ||| im d w T n0 s) (by omega) hs2
      refine ⟨z, hz0, fun i hi => hz1 i (or_l hi), fun i hi => hz1 i (or_r hi), fun h1 => absurd h1 h, fun n x5 g a hn hx hB hO => ?_⟩
      obtain ⟨n, rfl⟩ := pos_of hn
      obtain ⟨g', a', e1, e2⟩ := strays_i hB hO hn0 (s := s) (by rw [hN]; exact hs)
      obtain ⟨g2, a2, e3, e4⟩ := hz4 n (x5 + 1) g' a' (by omega) (by omega) (Bas_sm hB e2) (Opr_sm hO e2)
      refine ⟨g2, a2, ?_, Sm_tr e2 e4⟩
      rw [e_X0_closure_6, if_neg (show ¬ (27 : Int32) < nI x5 from nI_nlt (a := 27) (b := x5) (by omega) (by decide)), e1, Option.bind_some, if_neg (nI_ne0 (by omega) hbl2)]
      dsimp only
      rw [nI_or, or_bd, show nI x5 + 1 = nI (x5 + 1) from nI_1 x5, e3]
section KB
variable {d R K V C : Nat} {pl tu ar cr : Nat → Nat} {an cv : Nat → Nat → Nat} {g : xG} {a : xA}
theorem SmPX {g' : xG} {a' : xA} (h : Sm [2, 3] [8, 9] g a g' a') : Sm PX QX g a g' a' := Sm_mo h (by decide) (by decide)
theorem q_keeps (h : St d R K V C pl tu ar cr an cv g a) {k r : Nat} (hk : k < K) (hr : r < R) : ∃ g' a', f_X11_keeps g a (nI k) (nI r) = some (.inr (nI (if bdiff (im d (ar k) (an k) (pl r) (tu r)) (tu r) = 0 then 1 else 0), g', a')) ∧ Sm PX QX g a g' a' := by
  obtain ⟨hB, hd, hR8, h1, hK6, h4, -⟩ := St_b h
  obtain ⟨r1, r3, r5, r6, r7, h9, h5⟩ := St_r h hr
  obtain ⟨g', a', s1, s2⟩ := strays_i (n0 := pl r) hB (St_k h hk) (by omega) r7
  have hbl : bdiff (im d (ar k) (an k) (pl r) (tu r)) (tu r) < 2 ^ 31 := Nat.lt_of_lt_of_le (bdiff_le _ _ (im_lt ..)) (Nat.pow_le_pow_right (by decide) (by omega))
  refine ⟨g', a', ?_, SmPX s2⟩
  unfold f_X11_keeps
  rw [h4, getF_1 hk hK6, om_s, if_neg (St_th h hr), plOf (by omega) r1, tuOf (by omega) r3, s1, Option.bind_some]
  by_cases h : bdiff (im d (ar k) (an k) (pl r) (tu r)) (tu r) = 0
  · rw [if_pos h, h, if_pos (show nI 0 = 0 from rfl)]
    rfl
  · rw [if_neg h, if_neg (nI_ne0 (by omega) hbl)]
    rfl
theorem q_breaks (h : St d R K V C pl tu ar cr an cv g a) {k r : Nat} (hk : k < K) (hr : r < R) : ∃ g' a', f_X11_breaks g a (nI k) (nI r) = some (.inr (lo (bdiff (im d (ar k) (an k) (pl r) (tu r)) (tu r)) 0 9, g', a')) ∧ Sm PX QX g a g' a' := by
  obtain ⟨hB, hd, hR8, h1, hK6, h4, -⟩ := St_b h
  obtain ⟨r1, r3, r5, r6, r7, h9, h5⟩ := St_r h hr
  obtain ⟨g', a', s1, s2⟩ := strays_i (n0 := pl r) hB (St_k h hk) (by omega) r7
  have hb9 : bdiff (im d (ar k) (an k) (pl r) (tu r)) (tu r) < 2 ^ 9 := Nat.lt_of_lt_of_le (bdiff_le _ _ (im_lt ..)) (Nat.pow_le_pow_right (by decide) (by omega))
  have hbl : bdiff (im d (ar k) (an k) (pl r) (tu r)) (tu r) < 2 ^ 31 := by omega
  have hlo := lo_more (y := bdiff (im d (ar k) (an k) (pl r) (tu r)) (tu r)) 9 0 23 (fun i hi => bit_ge hb9 (by omega))
  refine ⟨g', a', ?_, SmPX s2⟩
  unfold f_X11_breaks
  rw [h4, getF_1 hk hK6, om_s, if_neg (St_th h hr), plOf (by omega) r1, tuOf (by omega) r3, s1, Option.bind_some]
  dsimp only
  unfold f_X11_lowestOf
  rw [z0, low_loop hbl 32 0 fu (by omega) (fu_gt (by omega)), Option.bind_some, ← hlo]
theorem q_closed (h : St d R K V C pl tu ar cr an cv g a) {k r : Nat} (hk : k < K) (hr : r < R) : ∃ z g' a', f_X11_closed g a (nI k) (nI r) = some (.inr (nI z, g', a')) ∧ Sm PX QX g a g' a' ∧ z < 512 ∧ (∀ i, (tu r).testBit i = true → z.testBit i = true) ∧ (∀ i, (im d (ar k) (an k) (pl r) (tu r)).testBit i = true → z.testBit i = true) ∧ (bdiff (im d (ar k) (an k) (pl r) (tu r)) (tu r) = 0 → z = tu r) := by
  obtain ⟨hB, hd, hR8, h1, hK6, h4, -⟩ := St_b h
  obtain ⟨r1, r3, r5, r6, r7, h9, h5⟩ := St_r h hr
  obtain ⟨z, z1, z2, z3, z4, z5⟩ := clo_s (k := k) (T := an k) (w := ar k) (n0 := pl r) hd (by omega) rfl (d ^ pl r) (tu r) (by omega) r7
  obtain ⟨g', a', s1, s2⟩ := z5 fu 0 g a (fu_gt (by omega)) (by omega) hB (St_k h hk)
  refine ⟨z, g', a', ?_, SmPX s2, Nat.lt_of_lt_of_le z1 (Nat.pow_le_pow_right (n := 2) (by decide) h9), z2, z3, z4⟩
  unfold f_X11_closed
  rw [h4, getF_1 hk hK6, om_s, if_neg (St_th h hr), plOf (by omega) r1, tuOf (by omega) r3]
  unfold f_X0_closure
  rw [z0, s1, Option.bind_some]
theorem rel48 {g0 : xG} {a0 : xA} (h : St d R K V C pl tu ar cr an cv g0 a0) {r : Nat} (hr : r < R) {K5 : xG → xA → Int32 → Int32 → Int32 → Int32 → Option (Int32 × xG × xA)} : ∀ (m k n : Nat) (g : xG) (a : xA), k + m = K → m < n → Sm PX QX g0 a0 g a →
    ∃ g' a', f_L_relations_48 K5 n g a (nI R) (nI K) 1 (nI r) (nI (tu r)) (nI k) = K5 g' a' (nI R) (nI K) 1 (nI (r + 1)) ∧ Sm PX QX g0 a0 g' a'
  | 0, k, n, g, a, hk, hn, s => by
    obtain ⟨n, rfl⟩ := pos_of hn
    obtain ⟨-, -, -, -, hK6, -⟩ := St_b h
    refine ⟨g, a, ?_, s⟩
    rw [e_L_relations_48, if_pos (nI_le (by omega) (by omega)), show nI r + 1 = nI (r + 1) from nI_1 r]
  | m + 1, k, n, g, a, hk, hn, s => by
    obtain ⟨n, rfl⟩ := pos_of hn
    obtain ⟨-, hd, -, -, hK6, -⟩ := St_b h
    obtain ⟨-, -, -, -, -, -, h5⟩ := St_r h hr
    have hkK : k < K := by omega
    obtain ⟨z, g1, a1, c1, s1, c2, c3, c4, c5⟩ := q_closed (St_fr h s) hkK hr
    have s1' := Sm_tr s s1
    obtain ⟨g2, a2, b1, s2⟩ := q_breaks (St_fr h s1') hkK hr
    have s2' := Sm_tr s1' s2
    obtain ⟨g3, a3, k1, s3⟩ := q_keeps (St_fr h s2') hkK hr
    have s3' := Sm_tr s2' s3
    obtain ⟨g4, a4, e1, e2⟩ := rel48 h hr (K5 := K5) m (k + 1) n g3 a3 (by omega) (by omega) s3'
    refine ⟨g4, a4, ?_, e2⟩
    rw [← e1, e_L_relations_48, if_neg (nI_ge hkK (by omega)), if_neg (show ¬ (1 : Int32) = 0 by decide), c1, rgt_r, Option.bind_some]
    dsimp only
    rw [b1, rgt_r, Option.bind_some]
    dsimp only
    rw [k1, rgt_r, Option.bind_some]
    dsimp only
    have hand : nI z &&& nI (tu r) = nI (tu r) := by
      rw [nI_and]
      congr 1
      refine set_ext fun i => ?_
      rw [and_bit]
      exact ⟨fun q => q.2, fun q => ⟨c3 i q, q⟩⟩
    by_cases hb : bdiff (im d (ar k) (an k) (pl r) (tu r)) (tu r) = 0
    · have hl : lo (bdiff (im d (ar k) (an k) (pl r) (tu r)) (tu r)) 0 9 = -1 := by rw [hb]; rfl
      rw [hl, if_pos rfl, if_pos hb, c5 hb]
      unfold f_L_relations_97
      rw [if_pos (show nI 1 = 1 from rfl), if_pos rfl]
      unfold f_L_relations_112
      rw [if_pos rfl]
      unfold f_L_relations_123
      rw [if_pos rfl, if_pos (by rw [nI_and, Nat.and_self]), if_pos rfl, show nI k + 1 = nI (k + 1) from nI_1 k]
    · have hB9 : bdiff (im d (ar k) (an k) (pl r) (tu r)) (tu r) < 2 ^ 9 := by
        obtain ⟨-, -, -, -, -, h9, -⟩ := St_r h hr
        exact Nat.lt_of_lt_of_le (bdiff_le _ _ (im_lt ..)) (Nat.pow_le_pow_right (by decide) (by omega))
      rcases lo_is (y := bdiff (im d (ar k) (an k) (pl r) (tu r)) (tu r)) 9 0 with ⟨-, l2⟩ | ⟨i, -, l2, l3, l4⟩
      · obtain ⟨i, hi⟩ := ne0_bit hb
        have := l2 i (Nat.zero_le _) (by have := bit_lt hB9 hi; omega)
        rw [this] at hi
        cases hi
      · have hne : ¬ nI i = -1 := fun e => by
          have : (-1 : Int32) < 0 := by decide
          exact nI_pos (n := i) (by omega) (by rw [e]; exact this)
        rw [bdiff_bit] at l3
        have hi1 : (im d (ar k) (an k) (pl r) (tu r)).testBit i = true := by
          cases hx : (im d (ar k) (an k) (pl r) (tu r)).testBit i
          · rw [hx] at l3; cases l3
          · rfl
        have hi2 : (tu r).testBit i = false := by
          cases hx : (tu r).testBit i
          · rfl
          · rw [hx, hi1] at l3; cases l3
        have hzs : ¬ nI z = nI (tu r) := fun e => by
          have e2 := nI_inj (by omega) (by omega) e
          have := c4 i hi1
          rw [e2, hi2] at this
          cases this
        rw [l4, if_neg hne, if_neg hb]
        unfold f_L_relations_97
        rw [if_pos (show nI 0 = 0 from rfl), if_neg hzs]
        unfold f_L_relations_112
        rw [if_neg hne]
        unfold f_L_relations_123
        rw [if_pos rfl, if_pos hand, if_neg hne, bit_at (by omega) (by omega), bit_at (by omega) (by omega), hi2, c4 i hi1, if_neg (show ¬ (false = true) by decide), if_pos (show nI 0 = 0 from rfl), if_pos rfl, if_pos (show nI 1 = 1 from rfl), show nI k + 1 = nI (k + 1) from nI_1 k]
theorem rel5 {g0 : xG} {a0 : xA} (h : St d R K V C pl tu ar cr an cv g0 a0) : ∀ (m r n : Nat) (g : xG) (a : xA), r + m = R → m < n → Sm PX QX g0 a0 g a →
    ∃ g' a', f_L_relations_5 n g a (nI R) (nI K) 1 (nI r) = some (1, g', a') ∧ Sm PX QX g0 a0 g' a'
  | 0, r, n, g, a, hk, hn, s => by
    obtain ⟨n, rfl⟩ := pos_of hn
    obtain ⟨-, -, hR8, -⟩ := St_b h
    refine ⟨g, a, ?_, s⟩
    rw [e_L_relations_5, if_pos (nI_le (by omega) (by omega)), ck_t bo1]
  | m + 1, r, n, g, a, hk, hn, s => by
    obtain ⟨n, rfl⟩ := pos_of hn
    obtain ⟨-, hd, hR8, -, hK6, -⟩ := St_b h
    have hrR : r < R := by omega
    obtain ⟨-, -, -, -, -, -, h5⟩ := St_r h hrR
    obtain ⟨g1, a1, e1, s1⟩ := rel48 h hrR (K5 := f_L_relations_5 n) K 0 fu g a (by omega) (fu_gt (by omega)) s
    obtain ⟨g2, a2, e2, s2⟩ := rel5 h m (r + 1) n g1 a1 (by omega) (by omega) s1
    refine ⟨g2, a2, ?_, s2⟩
    rw [← e2, ← e1, e_L_relations_5, if_neg (nI_ge hrR (by omega)), if_neg (show ¬ (1 : Int32) = 0 by decide), ofr1 (St_fr h s) hrR, rgt_r, Option.bind_some, ofr2 (St_fr h s) hrR, rgt_r, Option.bind_some, bits_ok (by omega), Option.bind_some, if_pos rfl]
    rfl
theorem q_relations (h : St d R K V C pl tu ar cr an cv g a) : ∃ g' a', f_L_relations g a (nI R) (nI K) = some (1, g', a') ∧ Sm PX QX g a g' a' := by
  obtain ⟨-, -, hR8, -⟩ := St_b h
  exact rel5 h R 0 fu g a (by omega) (fu_gt (by omega)) Sm_rfl
end KB
