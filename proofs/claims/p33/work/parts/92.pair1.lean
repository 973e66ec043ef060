/-! pairs: those that are left at first, the class. -/
theorem shlF {F m : Nat} (hm : m < 32) (h : F * 2 ^ m < 2 ^ 32) : nI F <<< (nI m &&& 31) = nI (F * 2 ^ m) := pk_shlN _ m (sh_l m hm) h
theorem mul_bit (F s i : Nat) : (F * 2 ^ s).testBit i = true ↔ s ≤ i ∧ F.testBit (i - s) = true := by
  rw [← Nat.shiftLeft_eq, Nat.testBit_shiftLeft, Bool.and_eq_true]
  simp
/-- pairs with which a tuple can stand -/
def PC (d : Nat) (P : Nat → Nat) (cv : Nat → Nat → Nat) (TC : Nat → Nat) (c x y u : Nat) : Prop := ∃ t, Stn d (P c) (TC c) (cv c) t ∧ (∀ p, p < P c → cv c p = x → dg d t p = u % d) ∧ ∀ p, p < P c → cv c p = y → dg d t p = u / d
theorem vw3 {d V C : Nat} {cr P : Nat → Nat} {cv : Nat → Nat → Nat} {TC : Nat → Nat} {g : xG} {a : xA} (hB : Bas d g a) (hI : Ins d 1 V C cr P cv TC g a) {c t x : Nat} (hc : c < C) (ht : Stn d (P c) (TC c) (cv c) t) (hx : x < 100) :
    ∀ (r p n : Nat), p + r = P c → r < n → (∀ p', p' < p → cv c p' ≠ x) → ∃ F, f_X7_valuesWith_3 g a n (nI c) (nI t) (nI x) (nI p) = some (nI F) ∧ F < 2 ^ d ∧ ∀ w, F.testBit w = true ↔ w < d ∧ ∀ p', p' < P c → cv c p' = x → dg d t p' = w
  | 0, p, n, hp, hn, hno => by
    obtain ⟨n, rfl⟩ := pos_of hn
    obtain ⟨h1, h2, h3, h4, h5, h6, h7, h8, h9⟩ := hI.2.2.2.2.2 c hc
    refine ⟨2 ^ d - 1, ?_, Nat.sub_lt (Nat.two_pow_pos _) (by decide), fun w => ?_⟩
    · rw [e_X7_valuesWith_3, plC hI hc, if_pos (nI_le (by omega) (by omega)), allV hB]
    · rw [Nat.testBit_two_pow_sub_one, decide_eq_true_iff]
      exact ⟨fun q => ⟨q, fun p' k1 k2 => absurd k2 (hno p' (by omega))⟩, fun q => q.1⟩
  | r + 1, p, n, hp, hn, hno => by
    obtain ⟨n, rfl⟩ := pos_of hn
    have hV := hI.2.1
    have hd := hB.1
    obtain ⟨h1, h2, h3, h4, h5, h6, h7, h8, h9⟩ := hI.2.2.2.2.2 c hc
    have h9' := pw9 hd h8
    have v1 := (h9 p (by omega)).2
    have hdg := dg_lt (d := d) (by omega) t p
    have ht1 := ht.1
    rw [e_X7_valuesWith_3, plC hI hc, if_neg (nI_ge (by omega) (by omega)), vOn hd hI hc (by omega), digit_B hB (by omega) (by omega), shl_nI (by omega), show nI p + 1 = nI (p + 1) from nI_1 p]
    by_cases e : cv c p = x
    · rw [if_pos (by rw [e])]
      refine ⟨2 ^ dg d t p, rfl, Nat.pow_lt_pow_right (by decide) hdg, fun w => ?_⟩
      rw [Nat.testBit_two_pow, decide_eq_true_iff]
      constructor
      · rintro rfl
        exact ⟨hdg, fun p' k1 k2 => ht.2.2 p' p k1 (by omega) (k2.trans e.symm)⟩
      · rintro ⟨_, q⟩
        exact q p (by omega) e
    · rw [if_neg (fun h => e ((nI_eqs (by omega) (by omega)).mp h))]
      exact vw3 hB hI hc ht hx r (p + 1) n (by omega) (by omega) (fun p' k1 => by
        by_cases he : p' = p
        · rw [he]; exact e
        · exact hno p' (by omega))
theorem withX {d V C : Nat} {cr P : Nat → Nat} {cv : Nat → Nat → Nat} {TC : Nat → Nat} {g : xG} {a : xA} (hB : Bas d g a) (hI : Ins d 1 V C cr P cv TC g a) {c t x : Nat} (hc : c < C) (ht : Stn d (P c) (TC c) (cv c) t) (hx : x < 100) : ∃ F, f_X7_valuesWith g a (nI c) (nI t) (nI x) = some (nI F) ∧ F < 2 ^ d ∧ ∀ w, F.testBit w = true ↔ w < d ∧ ∀ p', p' < P c → cv c p' = x → dg d t p' = w := by
  obtain ⟨h1, h2, h3, h4, h5, h6, h7, h8, h9⟩ := hI.2.2.2.2.2 c hc
  exact vw3 hB hI hc ht hx (P c) 0 fu (by omega) (fu_gt (by omega)) (fun p' h => by omega)
theorem dd9 {d : Nat} (hd : d = 2 ∨ d = 3) : d * d ≤ 9 := by
  rcases hd with rfl | rfl <;> decide
theorem ls59 {d F G : Nat} {g : xG} {K : xA → Int32 → Int32 → Int32 → Int32 → Int32 → Int32 → Option xA} {a : xA} {x1 x2 x3 x4 x6 : Int32} (hd : d = 2 ∨ d = 3) (h0 : g 0 = nI d) (hF : F < 2 ^ d) (hG : G < 2 ^ d) :
    ∀ (r v n acc : Nat), v + r = d → r < n → acc < 2 ^ 9 → ∃ acc', f_X7_leaveStanding_59 g K n a x1 x2 x3 x4 (nI acc) x6 (nI F) (nI G) (nI v) = K a x1 x2 x3 x4 (nI acc') (x6 + 1) ∧ acc' < 2 ^ 9 ∧ ∀ u, acc'.testBit u = true ↔ acc.testBit u = true ∨ (v ≤ u / d ∧ u / d < d ∧ F.testBit (u % d) = true ∧ G.testBit (u / d) = true)
  | 0, v, n, acc, hv, hn, ha => by
    obtain ⟨n, rfl⟩ := pos_of hn
    refine ⟨acc, ?_, ha, fun u => ⟨Or.inl, fun q => ?_⟩⟩
    · rw [e_X7_leaveStanding_59, h0, if_pos (nI_le (by omega) (by omega))]
    · rcases q with q | ⟨q1, q2, _⟩
      · exact q
      · omega
  | r + 1, v, n, acc, hv, hn, ha => by
    obtain ⟨n, rfl⟩ := pos_of hn
    have hd0 : 0 < d := by omega
    have hG31 : G < 2 ^ 31 := Nat.lt_of_lt_of_le hG (Nat.pow_le_pow_right (by decide) (by omega))
    rw [e_X7_leaveStanding_59, h0, if_neg (nI_ge (by omega) (by omega)), isIn_nI (by omega) hG31, show nI v + 1 = nI (v + 1) from nI_1 v]
    cases hb : G.testBit v with
    | false =>
      obtain ⟨acc', e1, e2, e3⟩ := ls59 (a := a) (K := K) (x1 := x1) (x2 := x2) (x3 := x3) (x4 := x4) (x6 := x6) hd h0 hF hG r (v + 1) n acc (by omega) (by omega) ha
      refine ⟨acc', ?_, e2, fun u => (e3 u).trans ⟨fun q => ?_, fun q => ?_⟩⟩
      · rw [if_pos (by decide), show nI acc ||| 0 = nI acc by rw [z0, nI_or, Nat.or_zero]]
        exact e1
      · rcases q with q | ⟨q1, q2⟩
        · exact Or.inl q
        · exact Or.inr ⟨by omega, q2⟩
      · rcases q with q | ⟨q1, q2, q3, q4⟩
        · exact Or.inl q
        · by_cases he : u / d = v
          · rw [he, hb] at q4
            cases q4
          · exact Or.inr ⟨by omega, q2, q3, q4⟩
    | true =>
      have hdv : d * v + d ≤ 9 := by
        have h1 : d * (v + 1) ≤ d * d := Nat.mul_le_mul_left _ (by omega)
        rw [Nat.mul_add, Nat.mul_one] at h1
        have := dd9 hd
        omega
      have hsh : F * 2 ^ (d * v) < 2 ^ 9 := by
        have h1 : F * 2 ^ (d * v) < 2 ^ d * 2 ^ (d * v) := Nat.mul_lt_mul_of_pos_right hF (Nat.two_pow_pos _)
        rw [← Nat.pow_add] at h1
        exact Nat.lt_of_lt_of_le h1 (Nat.pow_le_pow_right (by decide) (by omega))
      obtain ⟨acc', e1, e2, e3⟩ := ls59 (a := a) (K := K) (x1 := x1) (x2 := x2) (x3 := x3) (x4 := x4) (x6 := x6) hd h0 hF hG r (v + 1) n (acc ||| F * 2 ^ (d * v)) (by omega) (by omega) (Nat.or_lt_two_pow ha hsh)
      refine ⟨acc', ?_, e2, fun u => (e3 u).trans ?_⟩
      · rw [if_neg (by decide), pk_mul, shlF (by omega) (Nat.lt_of_lt_of_le hsh (by decide)), nI_or]
        exact e1
      · rw [Nat.testBit_or, Bool.or_eq_true, mul_bit]
        constructor
        · rintro ((q | ⟨q1, q2⟩) | ⟨q1, q2⟩)
          · exact Or.inl q
          · have hlt := bit_lt hF q2
            have e4 : u / d = v := by
              rw [show u = d * v + (u - d * v) by omega, Nat.mul_add_div hd0, Nat.div_eq_of_lt hlt, Nat.add_zero]
            have e5 : u % d = u - d * v := by
              have := Nat.div_add_mod u d
              rw [e4] at this
              omega
            exact Or.inr ⟨by omega, by omega, by rw [e5]; exact q2, by rw [e4]; exact hb⟩
          · exact Or.inr ⟨by omega, q2⟩
        · rintro (q | ⟨q1, q2, q3, q4⟩)
          · exact Or.inl (Or.inl q)
          · by_cases he : u / d = v
            · have := Nat.div_add_mod u d
              rw [he] at this
              refine Or.inl (Or.inr ⟨by omega, ?_⟩)
              rw [show u - d * v = u % d by omega]
              exact q3
            · exact Or.inr ⟨by omega, q2, q3, q4⟩
theorem ls6 {d V C : Nat} {cr P : Nat → Nat} {cv : Nat → Nat → Nat} {TC : Nat → Nat} {g : xG} {a : xA} (hB : Bas d g a) (hI : Ins d 1 V C cr P cv TC g a) {c x y s : Nat} (hc : c < C) (hx : x < 6) (hy : y < 6) (hs1 : s < 2 ^ (d ^ P c)) (hs2 : ∀ i, s.testBit i = true ↔ Stn d (P c) (TC c) (cv c) i) :
    ∀ (r t n acc : Nat), t + r = d ^ P c → r < n → acc < 2 ^ 9 → (∀ u, acc.testBit u = true ↔ u < d * d ∧ ∃ t', t' < t ∧ Stn d (P c) (TC c) (cv c) t' ∧ (∀ p, p < P c → cv c p = x → dg d t' p = u % d) ∧ ∀ p, p < P c → cv c p = y → dg d t' p = u / d) → ∃ X, f_X7_leaveStanding_6 g n a (nI c) (nI s) (nI x) (nI y) (nI acc) (nI t) = some (t_X7_setLeft g a (nI x) (nI y) (nI X &&& (t_X7_leftOf g a (nI x) (nI y)))) ∧ X < 2 ^ 9 ∧ ∀ u, X.testBit u = true ↔ u < d * d ∧ PC d P cv TC c x y u
  | 0, t, n, acc, ht, hn, ha, h => by
    obtain ⟨n, rfl⟩ := pos_of hn
    obtain ⟨h1, h2, h3, h4, h5, h6, h7, h8, h9⟩ := hI.2.2.2.2.2 c hc
    have h9' := pw9 hB.1 h8
    refine ⟨acc, ?_, ha, fun u => (h u).trans ⟨fun ⟨q1, t', _, q⟩ => ⟨q1, t', q⟩, fun ⟨q1, t', q⟩ => ⟨q1, t', by have := q.1.1; omega, q⟩⟩⟩
    rw [e_X7_leaveStanding_6, plC hI hc, power_B hB (by omega), if_pos (nI_le (by omega) (by omega))]
  | r + 1, t, n, acc, ht, hn, ha, h => by
    obtain ⟨n, rfl⟩ := pos_of hn
    have hd := hB.1
    have hd0 : 0 < d := by omega
    obtain ⟨h1, h2, h3, h4, h5, h6, h7, h8, h9⟩ := hI.2.2.2.2.2 c hc
    have h9' := pw9 hB.1 h8
    have hs9 := TC_lt hB.1 hs1 h8
    rw [e_X7_leaveStanding_6, plC hI hc, power_B hB (by omega), if_neg (nI_ge (by omega) (by omega)), isIn_nI (by omega) (by omega)]
    cases hb : s.testBit t with
    | false =>
      rw [if_pos (by decide), show nI t + 1 = nI (t + 1) from nI_1 t]
      refine ls6 hB hI hc hx hy hs1 hs2 r (t + 1) n acc (by omega) (by omega) ha (fun u => (h u).trans ⟨fun ⟨q1, t', q2, q⟩ => ⟨q1, t', by omega, q⟩, fun ⟨q1, t', q2, q⟩ => ⟨q1, t', ?_, q⟩⟩)
      by_cases he : t' = t
      · have := (hs2 t).mpr (he ▸ q.1)
        rw [hb] at this
        cases this
      · omega
    | true =>
      have hst := (hs2 t).mp hb
      obtain ⟨F, f1, f2, f3⟩ := withX hB hI hc hst (x := x) (by omega)
      obtain ⟨G, g1, g2, g3⟩ := withX hB hI hc hst (x := y) (by omega)
      obtain ⟨acc', e1, e2, e3⟩ := ls59 (a := a) (K := f_X7_leaveStanding_6 g n) (x1 := nI c) (x2 := nI s) (x3 := nI x) (x4 := nI y) (x6 := nI t) hd hB.2.1 f2 g2 d 0 fu acc (by omega) (fu_gt (by omega)) ha
      rw [if_neg (by decide), f1, Option.bind_some, g1, Option.bind_some]
      have ih := ls6 hB hI hc hx hy hs1 hs2 r (t + 1) n acc' (by omega) (by omega) e2 (fun u => by
        rw [e3 u, h u]
        constructor
        · rintro (⟨q1, t', q2, q⟩ | ⟨_, q2, q3, q4⟩)
          · exact ⟨q1, t', by omega, q⟩
          · refine ⟨?_, t, by omega, hst, fun p hp k => ((f3 _).mp q3).2 p hp k, fun p hp k => ((g3 _).mp q4).2 p hp k⟩
            exact (Nat.div_lt_iff_lt_mul hd0).mp q2
        · rintro ⟨q1, t', q2, q3, q4, q5⟩
          by_cases he : t' = t
          · subst he
            have hud : u / d < d := (Nat.div_lt_iff_lt_mul hd0).mpr q1
            exact Or.inr ⟨Nat.zero_le _, hud, (f3 _).mpr ⟨Nat.mod_lt _ hd0, q4⟩, (g3 _).mpr ⟨hud, q5⟩⟩
          · exact Or.inl ⟨q1, t', by omega, q3, q4, q5⟩)
      obtain ⟨X, k1, k2⟩ := ih
      refine ⟨X, ?_, k2⟩
      rw [show nI t + 1 = nI (t + 1) from nI_1 t] at e1
      exact e1.trans k1
theorem leaveX {d V C : Nat} {cr P : Nat → Nat} {cv : Nat → Nat → Nat} {TC : Nat → Nat} {g : xG} {a : xA} (hB : Bas d g a) (hI : Ins d 1 V C cr P cv TC g a) {c x y s k : Nat} (hc : c < C) (hx : x < 6) (hy : y < 6) (hs1 : s < 2 ^ (d ^ P c)) (hs2 : ∀ i, s.testBit i = true ↔ Stn d (P c) (TC c) (cv c) i) (hk : a 39 (6 * x + y) = nI k) :
    ∃ X, f_X7_leaveStanding g a (nI c) (nI s) (nI x) (nI y) = some (upA a 39 (upd (a 39) (6 * x + y) (nI (X &&& k)))) ∧ ∀ u, X.testBit u = true ↔ u < d * d ∧ PC d P cv TC c x y u := by
  obtain ⟨h1, h2, h3, h4, h5, h6, h7, h8, h9⟩ := hI.2.2.2.2.2 c hc
  have h9' := pw9 hB.1 h8
  obtain ⟨X, e1, e2, e3⟩ := ls6 hB hI hc hx hy hs1 hs2 (d ^ P c) 0 fu 0 (by omega) (fu_gt (by omega)) (by decide) (fun u => by
    rw [Nat.zero_testBit]
    exact ⟨fun q => (by cases q), fun ⟨_, t', q, _⟩ => by omega⟩)
  refine ⟨X, ?_, e3⟩
  refine Eq.trans e1 ?_
  unfold t_X7_setLeft t_X7_leftOf
  simp only [z6, pk_mul, nI_add]
  rw [at_in (by omega) (by decide), hk, nI_and, put_in (by omega) (by decide)]
def lexP (f s x y : Nat) : Prop := (x < f ∧ y < f) ∨ (x = f ∧ y < s) ∨ (y = f ∧ x < s)
def InvA (d V : Nat) (P : Nat → Nat) (cv : Nat → Nat → Nat) (TC A : Nat → Nat) (h : Nat → Int32) (c f s : Nat) : Prop := (∀ k, k < 36 → h k = nI (A k) ∧ A k < 2 ^ 9) ∧ ∀ x y, x < V → y < V → x ≠ y → ∀ u, (A (6 * x + y)).testBit u = true ↔ u < d * d ∧ (∀ c', c' < c → PC d P cv TC c' x y u) ∧ (lexP f s x y → PC d P cv TC c x y u)
theorem leave2 {d V C : Nat} {cr P : Nat → Nat} {cv : Nat → Nat → Nat} {TC A : Nat → Nat} {g : xG} {a : xA} (hB : Bas d g a) (hI : Ins d 1 V C cr P cv TC g a) {c f s st : Nat} (hc : c < C) (hf : f < V) (hs : s < f) (hs1 : st < 2 ^ (d ^ P c)) (hs2 : ∀ i, st.testBit i = true ↔ Stn d (P c) (TC c) (cv c) i) (hv : InvA d V P cv TC A (a 39) c f s) :
    ∃ h A', Option.bind (f_X7_leaveStanding g a (nI c) (nI st) (nI f) (nI s)) (fun u8 => f_X7_leaveStanding g u8 (nI c) (nI st) (nI s) (nI f)) = some (upA a 39 h) ∧ InvA d V P cv TC A' h c f (s + 1) := by
  have hV := hI.2.1
  obtain ⟨X, e1, e2⟩ := leaveX hB hI hc (x := f) (y := s) (by omega) (by omega) hs1 hs2 (hv.1 (6 * f + s) (by omega)).1
  have hB' : Bas d g (upA a 39 (upd (a 39) (6 * f + s) (nI (X &&& A (6 * f + s))))) := Bas_fr hB rfl (upA_n _ _ (by decide)) (upA_n _ _ (by decide))
  have hI' : Ins d 1 V C cr P cv TC g (upA a 39 (upd (a 39) (6 * f + s) (nI (X &&& A (6 * f + s))))) := Ins_fr hI rfl rfl (upA_n _ _ (by decide)) (upA_n _ _ (by decide)) (upA_n _ _ (by decide)) (upA_n _ _ (by decide)) (upA_n _ _ (by decide))
  obtain ⟨Y, e3, e4⟩ := leaveX (k := A (6 * s + f)) hB' hI' hc (x := s) (y := f) (by omega) (by omega) hs1 hs2 (by
    rw [upA_s, upd_n _ _ (by omega)]
    exact (hv.1 (6 * s + f) (by omega)).1)
  rw [upA_s, upA_2] at e3
  refine ⟨upd (upd (a 39) (6 * f + s) (nI (X &&& A (6 * f + s)))) (6 * s + f) (nI (Y &&& A (6 * s + f))), fun k => if k = 6 * s + f then Y &&& A (6 * s + f) else if k = 6 * f + s then X &&& A (6 * f + s) else A k, ?_, fun k hk => ?_, fun x y hx hy hxy u => ?_⟩
  · rw [e1, Option.bind_some, e3]
  · dsimp only
    by_cases k1 : k = 6 * s + f
    · rw [if_pos k1, k1, upd_s]
      exact ⟨rfl, Nat.lt_of_le_of_lt Nat.and_le_right (hv.1 _ (by omega)).2⟩
    · rw [if_neg k1, upd_n _ _ k1]
      by_cases k2 : k = 6 * f + s
      · rw [if_pos k2, k2, upd_s]
        exact ⟨rfl, Nat.lt_of_le_of_lt Nat.and_le_right (hv.1 _ (by omega)).2⟩
      · rw [if_neg k2, upd_n _ _ k2]
        exact hv.1 k hk
  · have h0 := hv.2 x y hx hy hxy u
    dsimp only
    by_cases k1 : x = s ∧ y = f
    · obtain ⟨rfl, rfl⟩ := k1
      rw [if_pos rfl, and_bit, e4 u, h0]
      constructor
      · rintro ⟨⟨q1, q2⟩, q3, q4, _⟩
        exact ⟨q1, q4, fun _ => q2⟩
      · rintro ⟨q1, q2, q3⟩
        have := q3 (Or.inr (Or.inr ⟨rfl, by omega⟩))
        exact ⟨⟨q1, this⟩, q1, q2, fun _ => this⟩
    · rw [if_neg (by omega)]
      by_cases k2 : x = f ∧ y = s
      · obtain ⟨rfl, rfl⟩ := k2
        rw [if_pos rfl, and_bit, e2 u, h0]
        constructor
        · rintro ⟨⟨q1, q2⟩, q3, q4, _⟩
          exact ⟨q1, q4, fun _ => q2⟩
        · rintro ⟨q1, q2, q3⟩
          have := q3 (Or.inr (Or.inl ⟨rfl, by omega⟩))
          exact ⟨⟨q1, this⟩, q1, q2, fun _ => this⟩
      · rw [if_neg (by omega), h0]
        have hl : lexP f s x y ↔ lexP f (s + 1) x y := by
          unfold lexP
          omega
        rw [hl]
theorem lf73 {d V C : Nat} {cr P : Nat → Nat} {cv : Nat → Nat → Nat} {TC : Nat → Nat} {g : xG} {c f st : Nat} (hc : c < C) (hf : f < V) (hs1 : st < 2 ^ (d ^ P c)) (hs2 : ∀ i, st.testBit i = true ↔ Stn d (P c) (TC c) (cv c) i) {K37 : xA → Int32 → Option xA} {K59 : xA → Int32 → Int32 → Int32 → Option xA} :
    ∀ (r s n : Nat) (a : xA) (A : Nat → Nat), s + r = f → r < n → Bas d g a → Ins d 1 V C cr P cv TC g a → InvA d V P cv TC A (a 39) c f s →
    ∃ h A', f_X7_leaveAtFirst_73 g K37 K59 n a (nI c) (nI st) (nI f) (nI s) = K59 (upA a 39 h) (nI c) (nI st) (nI (f + 1)) ∧ InvA d V P cv TC A' h c (f + 1) 0
  | 0, s, n, a, A, hs, hn, hB, hI, hv => by
    obtain ⟨n, rfl⟩ := pos_of hn
    have hV := hI.2.1
    refine ⟨a 39, A, ?_, hv.1, fun x y hx hy hxy u => ?_⟩
    · rw [e_X7_leaveAtFirst_73, if_pos (nI_le (by omega) (by omega)), upA_id, show nI f + 1 = nI (f + 1) from nI_1 f]
    · rw [hv.2 x y hx hy hxy u]
      have hl : lexP f s x y ↔ lexP (f + 1) 0 x y := by
        unfold lexP
        omega
      rw [hl]
  | r + 1, s, n, a, A, hs, hn, hB, hI, hv => by
    obtain ⟨n, rfl⟩ := pos_of hn
    have hV := hI.2.1
    obtain ⟨h, A', e1, e2⟩ := leave2 hB hI hc hf (s := s) (by omega) hs1 hs2 hv
    obtain ⟨h2, A2, e3, e4⟩ := lf73 hc hf hs1 hs2 (K37 := K37) (K59 := K59) r (s + 1) n (upA a 39 h) A' (by omega) (by omega) (Bas_fr hB rfl (upA_n _ _ (by decide)) (upA_n _ _ (by decide))) (Ins_fr hI rfl rfl (upA_n _ _ (by decide)) (upA_n _ _ (by decide)) (upA_n _ _ (by decide)) (upA_n _ _ (by decide)) (upA_n _ _ (by decide))) (by rw [upA_s]; exact e2)
    rw [upA_2] at e3
    refine ⟨h2, A2, ?_, e4⟩
    rw [e_X7_leaveAtFirst_73, if_neg (nI_ge (by omega) (by omega)), show nI s + 1 = nI (s + 1) from nI_1 s]
    cases hq : f_X7_leaveStanding g a (nI c) (nI st) (nI f) (nI s) with
    | none =>
      rw [hq] at e1
      cases e1
    | some u8 =>
      rw [hq, Option.bind_some] at e1
      rw [Option.bind_some, e1, Option.bind_some]
      exact e3
theorem lf59 {d V C : Nat} {cr P : Nat → Nat} {cv : Nat → Nat → Nat} {TC : Nat → Nat} {g : xG} {c st : Nat} (hc : c < C) (hs1 : st < 2 ^ (d ^ P c)) (hs2 : ∀ i, st.testBit i = true ↔ Stn d (P c) (TC c) (cv c) i) {K37 : xA → Int32 → Option xA} :
    ∀ (r f n : Nat) (a : xA) (A : Nat → Nat), f + r = V → r < n → Bas d g a → Ins d 1 V C cr P cv TC g a → InvA d V P cv TC A (a 39) c f 0 →
    ∃ h A', f_X7_leaveAtFirst_59 g K37 n a (nI c) (nI st) (nI f) = K37 (upA a 39 h) (nI (c + 1)) ∧ InvA d V P cv TC A' h (c + 1) 0 0
  | 0, f, n, a, A, hs, hn, hB, hI, hv => by
    obtain ⟨n, rfl⟩ := pos_of hn
    have hV := hI.2.1
    refine ⟨a 39, A, ?_, hv.1, fun x y hx hy hxy u => ?_⟩
    · rw [e_X7_leaveAtFirst_59]
      unfold t_X2_variableCount
      rw [show g (12 + 2 * 1) = nI V from hI.2.2.2.1, if_pos (nI_le (by omega) (by omega)), upA_id, show nI c + 1 = nI (c + 1) from nI_1 c]
    · rw [hv.2 x y hx hy hxy u]
      have hl : lexP f 0 x y := by
        unfold lexP
        omega
      constructor
      · rintro ⟨q1, q2, q3⟩
        refine ⟨q1, fun c' hc' => ?_, fun q => ?_⟩
        · by_cases he : c' = c
          · rw [he]; exact q3 hl
          · exact q2 c' (by omega)
        · exfalso
          unfold lexP at q
          omega
      · rintro ⟨q1, q2, q3⟩
        exact ⟨q1, fun c' hc' => q2 c' (by omega), fun _ => q2 c (by omega)⟩
  | r + 1, f, n, a, A, hs, hn, hB, hI, hv => by
    obtain ⟨n, rfl⟩ := pos_of hn
    have hV := hI.2.1
    obtain ⟨h, A', e1, e2⟩ := lf73 hc (f := f) (by omega) hs1 hs2 (K37 := K37) (K59 := f_X7_leaveAtFirst_59 g K37 n) f 0 fu a A (by omega) (fu_gt (by omega)) hB hI hv
    obtain ⟨h2, A2, e3, e4⟩ := lf59 hc hs1 hs2 (K37 := K37) r (f + 1) n (upA a 39 h) A' (by omega) (by omega) (Bas_fr hB rfl (upA_n _ _ (by decide)) (upA_n _ _ (by decide))) (Ins_fr hI rfl rfl (upA_n _ _ (by decide)) (upA_n _ _ (by decide)) (upA_n _ _ (by decide)) (upA_n _ _ (by decide)) (upA_n _ _ (by decide))) (by rw [upA_s]; exact e2)
    rw [upA_2] at e3
    refine ⟨h2, A2, ?_, e4⟩
    rw [e_X7_leaveAtFirst_59]
    unfold t_X2_variableCount
    rw [show g (12 + 2 * 1) = nI V from hI.2.2.2.1, if_neg (nI_ge (by omega) (by omega))]
    exact e1.trans e3
theorem lf37 {d V C : Nat} {cr P : Nat → Nat} {cv : Nat → Nat → Nat} {TC : Nat → Nat} {g : xG} :
    ∀ (r c n : Nat) (a : xA) (A : Nat → Nat), c + r = C → r < n → Bas d g a → Ins d 1 V C cr P cv TC g a → InvA d V P cv TC A (a 39) c 0 0 →
    ∃ h A', f_X7_leaveAtFirst_37 g n a (nI c) = some (upA a 39 h) ∧ InvA d V P cv TC A' h C 0 0
  | 0, c, n, a, A, hs, hn, hB, hI, hv => by
    obtain ⟨n, rfl⟩ := pos_of hn
    have hC := hI.2.2.1
    have e : c = C := by omega
    subst e
    refine ⟨a 39, A, ?_, hv⟩
    rw [e_X7_leaveAtFirst_37, show g 13 = nI c from hI.2.2.2.2.1, if_pos (nI_le (by omega) (by omega)), upA_id]
  | r + 1, c, n, a, A, hs, hn, hB, hI, hv => by
    obtain ⟨n, rfl⟩ := pos_of hn
    have hC := hI.2.2.1
    have hV := hI.2.1
    obtain ⟨st, s1, s2, s3⟩ := standX hB hI (c := c) (by omega)
    obtain ⟨h, A', e1, e2⟩ := lf59 (V := V) (c := c) (by omega) s2 s3 (K37 := f_X7_leaveAtFirst_37 g n) V 0 fu a A (by omega) (fu_gt (by omega)) hB hI hv
    obtain ⟨h2, A2, e3, e4⟩ := lf37 r (c + 1) n (upA a 39 h) A' (by omega) (by omega) (Bas_fr hB rfl (upA_n _ _ (by decide)) (upA_n _ _ (by decide))) (Ins_fr hI rfl rfl (upA_n _ _ (by decide)) (upA_n _ _ (by decide)) (upA_n _ _ (by decide)) (upA_n _ _ (by decide)) (upA_n _ _ (by decide))) (by rw [upA_s]; exact e2)
    rw [upA_2] at e3
    refine ⟨h2, A2, ?_, e4⟩
    rw [e_X7_leaveAtFirst_37, show g 13 = nI C from hI.2.2.2.2.1, if_neg (nI_ge (by omega) (by omega)), s1, Option.bind_some]
    exact e1.trans e3
theorem lf2' {d V C : Nat} {cr P : Nat → Nat} {cv : Nat → Nat → Nat} {TC : Nat → Nat} {g : xG} :
    ∀ (r p n : Nat) (a : xA), p + r = 36 → r < n → Bas d g a → Ins d 1 V C cr P cv TC g a → (∀ k, k < p → a 39 k = nI (2 ^ (d * d) - 1)) →
    ∃ h A', f_X7_leaveAtFirst_2 g n a (nI p) = some (upA a 39 h) ∧ InvA d V P cv TC A' h C 0 0
  | 0, p, n, a, hs, hn, hB, hI, h => by
    obtain ⟨n, rfl⟩ := pos_of hn
    have hC := hI.2.2.1
    have hd9 := dd9 hB.1
    have h9 : 2 ^ (d * d) - 1 < 2 ^ 9 := Nat.lt_of_lt_of_le (Nat.sub_lt (Nat.two_pow_pos _) (by decide)) (Nat.pow_le_pow_right (by decide) hd9)
    obtain ⟨h2, A2, e3, e4⟩ := lf37 (V := V) (C := C) (P := P) (cv := cv) (TC := TC) C 0 fu a (fun _ => 2 ^ (d * d) - 1) (by omega) (fu_gt (by omega)) hB hI ⟨fun k hk => ⟨h k (by omega), h9⟩, fun x y hx hy hxy u => by
      rw [Nat.testBit_two_pow_sub_one, decide_eq_true_iff]
      refine ⟨fun q => ⟨q, fun c' hc' => by omega, fun q => ?_⟩, fun q => q.1⟩
      exfalso
      unfold lexP at q
      omega⟩
    refine ⟨h2, A2, ?_, e4⟩
    rw [e_X7_leaveAtFirst_2, if_pos (show (36 : Int32) ≤ nI p from nI_le (a := 36) (by omega) (by omega))]
    exact e3
  | r + 1, p, n, a, hs, hn, hB, hI, h => by
    obtain ⟨n, rfl⟩ := pos_of hn
    have hd9 := dd9 hB.1
    obtain ⟨h2, A2, e3, e4⟩ := lf2' (V := V) (C := C) r (p + 1) n (upA a 39 (upd (a 39) p (nI (2 ^ (d * d) - 1)))) (by omega) (by omega) (Bas_fr hB rfl (upA_n _ _ (by decide)) (upA_n _ _ (by decide))) (Ins_fr hI rfl rfl (upA_n _ _ (by decide)) (upA_n _ _ (by decide)) (upA_n _ _ (by decide)) (upA_n _ _ (by decide)) (upA_n _ _ (by decide))) (fun k hk => by
      rw [upA_s]
      by_cases he : k = p
      · rw [he, upd_s]
      · rw [upd_n _ _ he]
        exact h k (by omega))
    rw [upA_2] at e3
    refine ⟨h2, A2, ?_, e4⟩
    have ep : t_X4_power g a 2 = nI (d * d) := by
      have := power_B hB (n := 2) (by decide)
      rw [Nat.pow_succ, Nat.pow_one] at this
      exact this
    have es : ((1 : Int32) <<< (nI (d * d) &&& 31)) - 1 = nI (2 ^ (d * d) - 1) := by
      rcases hB.1 with rfl | rfl <;> decide
    rw [e_X7_leaveAtFirst_2, if_neg (show ¬ (36 : Int32) ≤ nI p from nI_ge (a := p) (b := 36) (by omega) (by decide)), ck_t (inB_t (by omega) (by decide)), nI_clamp (by omega), ep, es, show nI p + 1 = nI (p + 1) from nI_1 p]
    exact e3
theorem firstX {d V C : Nat} {cr P : Nat → Nat} {cv : Nat → Nat → Nat} {TC : Nat → Nat} {g : xG} {a : xA} (hB : Bas d g a) (hI : Ins d 1 V C cr P cv TC g a) : ∃ (h : Nat → Int32) (A : Nat → Nat), f_X7_leaveAtFirst g a = some (upA a 39 h) ∧ (∀ k, k < 36 → h k = nI (A k) ∧ A k < 2 ^ 9) ∧ ∀ x y, x < V → y < V → x ≠ y → ∀ u, (A (6 * x + y)).testBit u = true ↔ u < d * d ∧ ∀ c', c' < C → PC d P cv TC c' x y u := by
  obtain ⟨h, A, e1, e2, e3⟩ := lf2' (V := V) (C := C) 36 0 fu a rfl (fu_gt (by omega)) hB hI (fun k hk => by omega)
  refine ⟨h, A, e1, e2, fun x y hx hy hxy u => (e3 x y hx hy hxy u).trans ⟨fun q => ⟨q.1, q.2.1⟩, fun q => ⟨q.1, q.2, fun q => ?_⟩⟩⟩
  exfalso
  unfold lexP at q
  omega
