/-! pairs: what is left, the class. -/
def hr (R : Nat → Prop) (A : Nat → Nat) (k u : Nat) : Prop := R k ∧ (A k).testBit u = true
theorem MXR_eq {Init : Nat → Nat → Prop} {Sup : (Nat → Nat → Prop) → Nat → Nat → Prop} {R : Nat → Prop} {A : Nat → Nat} (h1 : ∀ k u, hr R A k u → Init k u ∧ Sup (hr R A) k u) (h2 : ∀ k u, MX Init Sup k u → hr R A k u) (k u : Nat) : hr R A k u ↔ MX Init Sup k u :=
  ⟨fun h => ⟨hr R A, h1, h⟩, h2 k u⟩
theorem MXR_same {Init : Nat → Nat → Prop} {Sup : (Nat → Nat → Prop) → Nat → Nat → Prop} {R : Nat → Prop} {A A' : Nat → Nat} (h1 : ∀ k u, hr R A k u ↔ MX Init Sup k u) (h2 : ∀ k u, hr R A' k u ↔ MX Init Sup k u) {k : Nat} (hk : R k) : A k = A' k :=
  set_ext fun i => ⟨fun q => ((h2 k i).mpr ((h1 k i).mp ⟨hk, q⟩)).2, fun q => ((h1 k i).mpr ((h2 k i).mp ⟨hk, q⟩)).2⟩
theorem MXR_keep {Init : Nat → Nat → Prop} {Sup : (Nat → Nat → Prop) → Nat → Nat → Prop} (hm : Mono Sup) {R : Nat → Prop} {A A' : Nat → Nat} (h : ∀ k u, MX Init Sup k u → hr R A k u) (h2 : ∀ k u, hr R A k u → Sup (hr R A) k u → hr R A' k u) : ∀ k u, MX Init Sup k u → hr R A' k u := fun k u q => h2 k u (h k u q) (hm _ _ h k u (MX_sup hm q).2)
def relP (V k : Nat) : Prop := k < 36 ∧ k / 6 < V ∧ k % 6 < V ∧ k / 6 ≠ k % 6
theorem relP_xy {V x y : Nat} (hV : V ≤ 6) (hx : x < V) (hy : y < V) (h : x ≠ y) : relP V (6 * x + y) := by
  unfold relP
  rw [show (6 * x + y) / 6 = x by omega, show (6 * x + y) % 6 = y by omega]
  exact ⟨by omega, hx, hy, h⟩
def InitP (d V C : Nat) (P : Nat → Nat) (cv : Nat → Nat → Nat) (TC : Nat → Nat) (k u : Nat) : Prop := relP V k ∧ u < d * d ∧ ∀ c, c < C → PC d P cv TC c (k / 6) (k % 6) u
def SupP (d V : Nat) (S : Nat → Nat → Prop) (k u : Nat) : Prop := ∀ z, z < V → z ≠ k / 6 → z ≠ k % 6 → ∃ w, w < d ∧ S (6 * (k / 6) + z) (u % d + d * w) ∧ S (6 * z + k % 6) (w + d * (u / d))
theorem SupP_mono {d V : Nat} : Mono (SupP d V) := by
  intro S S' h k u hs z h1 h2 h3
  obtain ⟨w, q1, q2, q3⟩ := hs z h1 h2 h3
  exact ⟨w, q1, h _ _ q2, h _ _ q3⟩
theorem jn42 {d S u0 b : Nat} {g : xG} {a : xA} {K : Int32 → Int32 → Int32 → Int32 → Option Int32} {x1 : Int32} {t : Nat} (hd : d = 2 ∨ d = 3) (h0 : g 0 = nI d) (hS : S < 2 ^ 9) (ht : t_X4_digit g a (nI t) 0 = nI u0) (hu : u0 < d) (hb : b < d) :
    ∀ (r v n acc : Nat), v + r = d → r < n → acc < 2 ^ 9 → ∃ acc', f_X7_joined_42 g a K n x1 (nI S) (nI acc) (nI t) (nI b) (nI v) = K x1 (nI S) (nI acc') (nI (t + 1)) ∧ acc' < 2 ^ 9 ∧ ∀ u, acc'.testBit u = true ↔ acc.testBit u = true ∨ (u % d = u0 ∧ v ≤ u / d ∧ u / d < d ∧ S.testBit (b + d * (u / d)) = true)
  | 0, v, n, acc, hv, hn, ha => by
    obtain ⟨n, rfl⟩ := pos_of hn
    refine ⟨acc, ?_, ha, fun u => ⟨Or.inl, fun q => ?_⟩⟩
    · rw [e_X7_joined_42, h0, if_pos (nI_le (by omega) (by omega)), show nI t + 1 = nI (t + 1) from nI_1 t]
    · rcases q with q | ⟨_, q1, q2, _⟩
      · exact q
      · omega
  | r + 1, v, n, acc, hv, hn, ha => by
    obtain ⟨n, rfl⟩ := pos_of hn
    have hd0 : 0 < d := by omega
    have hdv : d * v + d ≤ 9 := by
      have h1 : d * (v + 1) ≤ d * d := Nat.mul_le_mul_left _ (by omega)
      rw [Nat.mul_add, Nat.mul_one] at h1
      have := dd9 hd
      omega
    rw [e_X7_joined_42, h0, if_neg (nI_ge (by omega) (by omega)), ht, pk_mul, nI_add, nI_add, isIn_nI (by omega) (by omega), show nI v + 1 = nI (v + 1) from nI_1 v]
    have hdm : ∀ u, u % d = u0 → u / d = v → u = u0 + d * v := fun u q1 q2 => by
      have := Nat.div_add_mod u d
      rw [q1, q2] at this
      omega
    cases hbb : S.testBit (b + d * v) with
    | false =>
      obtain ⟨acc', e1, e2, e3⟩ := jn42 (K := K) (x1 := x1) hd h0 hS ht hu hb r (v + 1) n acc (by omega) (by omega) ha
      refine ⟨acc', ?_, e2, fun u => (e3 u).trans ⟨fun q => ?_, fun q => ?_⟩⟩
      · rw [if_pos (by decide), show nI acc ||| 0 = nI acc by rw [z0, nI_or, Nat.or_zero]]
        exact e1
      · rcases q with q | ⟨q1, q2, q3⟩
        · exact Or.inl q
        · exact Or.inr ⟨q1, by omega, q3⟩
      · rcases q with q | ⟨q1, q2, q3, q4⟩
        · exact Or.inl q
        · by_cases he : u / d = v
          · rw [he, hbb] at q4
            cases q4
          · exact Or.inr ⟨q1, by omega, q3, q4⟩
    | true =>
      obtain ⟨acc', e1, e2, e3⟩ := jn42 (K := K) (x1 := x1) hd h0 hS ht hu hb r (v + 1) n (acc ||| 2 ^ (u0 + d * v)) (by omega) (by omega) (or_lt ha (by omega))
      refine ⟨acc', ?_, e2, fun u => (e3 u).trans ?_⟩
      · rw [if_neg (by decide), shl_nI (by omega), nI_or]
        exact e1
      · rw [or_bit]
        constructor
        · rintro ((q | q) | ⟨q1, q2, q3⟩)
          · exact Or.inl q
          · refine Or.inr ?_
            have e4 : u / d = v := by
              rw [← q, Nat.add_comm, Nat.mul_add_div hd0, Nat.div_eq_of_lt hu, Nat.add_zero]
            have e5 : u % d = u0 := by
              rw [← q, Nat.add_comm, Nat.mul_add_mod, Nat.mod_eq_of_lt hu]
            exact ⟨e5, by omega, by omega, by rw [e4]; exact hbb⟩
          · exact Or.inr ⟨q1, by omega, q3⟩
        · rintro (q | ⟨q1, q2, q3, q4⟩)
          · exact Or.inl (Or.inl q)
          · by_cases he : u / d = v
            · exact Or.inl (Or.inr (hdm u q1 he).symm)
            · exact Or.inr ⟨q1, by omega, q3, q4⟩
theorem jn5 {d F S : Nat} {g : xG} {a : xA} (hB : Bas d g a) (hF : F < 2 ^ 9) (hS : S < 2 ^ 9) :
    ∀ (r t n acc : Nat), t + r = d * d → r < n → acc < 2 ^ 9 → (∀ u, acc.testBit u = true ↔ u < d * d ∧ ∃ w, w < d ∧ u % d + d * w < t ∧ F.testBit (u % d + d * w) = true ∧ S.testBit (w + d * (u / d)) = true) → ∃ X, f_X7_joined_5 g a n (nI F) (nI S) (nI acc) (nI t) = some (nI X) ∧ X < 2 ^ 9 ∧ ∀ u, X.testBit u = true ↔ u < d * d ∧ ∃ w, w < d ∧ F.testBit (u % d + d * w) = true ∧ S.testBit (w + d * (u / d)) = true
  | 0, t, n, acc, ht, hn, ha, h => by
    obtain ⟨n, rfl⟩ := pos_of hn
    have hd := hB.1
    have hd0 : 0 < d := by omega
    have hd9 := dd9 hd
    have ep : t_X4_power g a 2 = nI (d * d) := by
      have := power_B hB (n := 2) (by decide)
      rw [Nat.pow_succ, Nat.pow_one] at this
      exact this
    refine ⟨acc, ?_, ha, fun u => (h u).trans ⟨fun ⟨q1, w, q2, _, q3⟩ => ⟨q1, w, q2, q3⟩, fun ⟨q1, w, q2, q3⟩ => ⟨q1, w, q2, ?_, q3⟩⟩⟩
    · rw [e_X7_joined_5, ep, if_pos (nI_le (by omega) (by omega))]
    · have h1 := Nat.mod_lt u hd0
      have h2 : d * (w + 1) ≤ d * d := Nat.mul_le_mul_left _ q2
      rw [Nat.mul_add, Nat.mul_one] at h2
      omega
  | r + 1, t, n, acc, ht, hn, ha, h => by
    obtain ⟨n, rfl⟩ := pos_of hn
    have hd := hB.1
    have hd0 : 0 < d := by omega
    have hd9 := dd9 hd
    have ep : t_X4_power g a 2 = nI (d * d) := by
      have := power_B hB (n := 2) (by decide)
      rw [Nat.pow_succ, Nat.pow_one] at this
      exact this
    have htd : t < d * d := by omega
    have h1 := Nat.div_add_mod t d
    have h2 : t / d < d := (Nat.div_lt_iff_lt_mul hd0).mpr htd
    have h3 := Nat.mod_lt t hd0
    have d0 : t_X4_digit g a (nI t) 0 = nI (t % d) := by
      have := digit_B (c := t) (j := 0) hB (by omega) (by decide)
      rw [dg_0] at this
      exact this
    have d1 : t_X4_digit g a (nI t) 1 = nI (t / d) := by
      have := digit_B (c := t) (j := 1) hB (by omega) (by decide)
      unfold dg at this
      rw [Nat.pow_one, Nat.mod_eq_of_lt h2] at this
      exact this
    rw [e_X7_joined_5, ep, if_neg (nI_ge (by omega) (by omega)), isIn_nI (by omega) (by omega)]
    have huq : ∀ u w, u % d + d * w = t → w < d → u % d = t % d ∧ w = t / d := fun u w q1 q2 => by
      have q3 := Nat.mod_lt u hd0
      have e4 : t / d = w := by
        rw [← q1, Nat.add_comm, Nat.mul_add_div hd0, Nat.div_eq_of_lt q3, Nat.add_zero]
      have e5 : t % d = u % d := by
        rw [← q1, Nat.add_comm, Nat.mul_add_mod, Nat.mod_mod]
      exact ⟨e5.symm, e4.symm⟩
    cases hb : F.testBit t with
    | false =>
      rw [if_pos (by decide), show nI t + 1 = nI (t + 1) from nI_1 t]
      refine jn5 hB hF hS r (t + 1) n acc (by omega) (by omega) ha (fun u => (h u).trans ⟨fun ⟨q1, w, q2, q3, q⟩ => ⟨q1, w, q2, by omega, q⟩, fun ⟨q1, w, q2, q3, q4, q⟩ => ⟨q1, w, q2, ?_, q4, q⟩⟩)
      by_cases he : u % d + d * w = t
      · rw [he, hb] at q4
        cases q4
      · omega
    | true =>
      obtain ⟨acc', e1, e2, e3⟩ := jn42 (K := f_X7_joined_5 g a n) (x1 := nI F) (b := t / d) hd hB.2.1 hS d0 h3 h2 d 0 fu acc (by omega) (fu_gt (by omega)) ha
      obtain ⟨X, k1, k2⟩ := jn5 hB hF hS r (t + 1) n acc' (by omega) (by omega) e2 (fun u => by
        rw [e3 u, h u]
        constructor
        · rintro (⟨q1, w, q2, q3, q⟩ | ⟨q1, _, q2, q3⟩)
          · exact ⟨q1, w, q2, by omega, q⟩
          · refine ⟨(Nat.div_lt_iff_lt_mul hd0).mp q2, t / d, h2, by rw [q1]; omega, ?_, q3⟩
            rw [q1, show t % d + d * (t / d) = t by omega]
            exact hb
        · rintro ⟨q1, w, q2, q3, q4, q5⟩
          by_cases he : u % d + d * w = t
          · obtain ⟨k1, k2⟩ := huq u w he q2
            refine Or.inr ⟨k1, Nat.zero_le _, (Nat.div_lt_iff_lt_mul hd0).mpr q1, ?_⟩
            rw [← k2]
            exact q5
          · exact Or.inl ⟨q1, w, q2, by omega, q4, q5⟩)
      refine ⟨X, ?_, k2⟩
      rw [if_neg (by decide), d1]
      exact e1.trans k1
theorem joinX {d F S : Nat} {g : xG} {a : xA} (hB : Bas d g a) (hF : F < 2 ^ 9) (hS : S < 2 ^ 9) : ∃ X, f_X7_joined g a (nI F) (nI S) = some (nI X) ∧ X < 2 ^ 9 ∧ ∀ u, X.testBit u = true ↔ u < d * d ∧ ∃ w, w < d ∧ F.testBit (u % d + d * w) = true ∧ S.testBit (w + d * (u / d)) = true := by
  have hd9 := dd9 hB.1
  exact jn5 hB hF hS (d * d) 0 fu 0 (by omega) (fu_gt (by omega)) (by decide) (fun u => by
    rw [Nat.zero_testBit]
    exact ⟨fun q => (by cases q), fun ⟨_, w, _, q, _⟩ => by omega⟩)
def trp (d : Nat) (A : Nat → Nat) (x y z : Nat) : Prop := ∀ u, (A (6 * x + y)).testBit u = true → ∃ w, w < d ∧ (A (6 * x + z)).testBit (u % d + d * w) = true ∧ (A (6 * z + y)).testBit (w + d * (u / d)) = true
def lex3 (f s t x y z : Nat) : Prop := x < f ∨ (x = f ∧ y < s) ∨ (x = f ∧ y = s ∧ z < t)
def InvQ (d V : Nat) (MXp : Nat → Nat → Prop) (A0 A : Nat → Nat) (h : Nat → Int32) (fl f s t : Nat) : Prop := (∀ k, k < 36 → h k = nI (A k) ∧ A k < 2 ^ 9) ∧ (∀ k u, MXp k u → hr (relP V) A k u) ∧ (∀ k u, (A k).testBit u = true → (A0 k).testBit u = true) ∧ ((fl = 0 ∧ A = A0 ∧ ∀ x y z, lex3 f s t x y z → x < V → y < V → z < V → x ≠ y → x ≠ z → y ≠ z → trp d A0 x y z) ∨ (fl = 1 ∧ ms 9 A 36 < ms 9 A0 36))
theorem InvQ_lex {d V : Nat} {MXp : Nat → Nat → Prop} {A0 A : Nat → Nat} {h : Nat → Int32} {fl f s t f' s' t' : Nat} (hv : InvQ d V MXp A0 A h fl f s t) (hl : ∀ x y z, lex3 f' s' t' x y z → x < V → y < V → z < V → x ≠ y → x ≠ z → y ≠ z → lex3 f s t x y z) : InvQ d V MXp A0 A h fl f' s' t' := by
  refine ⟨hv.1, hv.2.1, hv.2.2.1, ?_⟩
  rcases hv.2.2.2 with ⟨q1, q2, q3⟩ | q
  · exact Or.inl ⟨q1, q2, fun x y z k1 k2 k3 k4 k5 k6 k7 => q3 x y z (hl x y z k1 k2 k3 k4 k5 k6 k7) k2 k3 k4 k5 k6 k7⟩
  · exact Or.inr q
theorem vcX {V : Nat} {g : xG} {a : xA} (h : g 14 = nI V) : t_X2_variableCount 1 g a = nI V := h
theorem q31 {d V : Nat} {Init : Nat → Nat → Prop} {A0 : Nat → Nat} {g : xG} {f s : Nat} (hV : V ≤ 6) (hg : g 14 = nI V) (hf : f < V) (hs : s < V) {K4 : xA → Int32 → Int32 → Option (Int32 × xA)} {K17 : xA → Int32 → Int32 → Int32 → Option (Int32 × xA)} :
    ∀ (r t n : Nat) (a : xA) (A : Nat → Nat) (fl : Nat), t + r = V → r < n → Bas d g a → InvQ d V (MX Init (SupP d V)) A0 A (a 39) fl f s t → (∀ k u, (A k).testBit u = true → u < d * d ∨ ¬ relP V k) →
    ∃ h A' fl', f_X7_isSomethingTakenAway_31 g K4 K17 n a (nI fl) (nI f) (nI s) (nI t) = K17 (upA a 39 h) (nI fl') (nI f) (nI (s + 1)) ∧ InvQ d V (MX Init (SupP d V)) A0 A' h fl' f (s + 1) 0 ∧ (∀ k u, (A' k).testBit u = true → u < d * d ∨ ¬ relP V k)
  | 0, t, n, a, A, fl, ht, hn, hB, hv, hdd => by
    obtain ⟨n, rfl⟩ := pos_of hn
    refine ⟨a 39, A, fl, ?_, InvQ_lex hv (fun x y z h k1 k2 k3 _ _ _ => ?_), hdd⟩
    · rw [e_X7_isSomethingTakenAway_31, vcX hg, if_pos (nI_le (by omega) (by omega)), upA_id, show nI s + 1 = nI (s + 1) from nI_1 s]
    · unfold lex3 at *
      omega
  | r + 1, t, n, a, A, fl, ht, hn, hB, hv, hdd => by
    obtain ⟨n, rfl⟩ := pos_of hn
    have hd := hB.1
    have htV : t < V := by omega
    have skip : (f = s ∨ f = t ∨ s = t) → ∃ h A' fl', f_X7_isSomethingTakenAway_31 g K4 K17 n a (nI fl) (nI f) (nI s) (nI (t + 1)) = K17 (upA a 39 h) (nI fl') (nI f) (nI (s + 1)) ∧ InvQ d V (MX Init (SupP d V)) A0 A' h fl' f (s + 1) 0 ∧ (∀ k u, (A' k).testBit u = true → u < d * d ∨ ¬ relP V k) := fun hsk => by
      refine q31 hV hg hf hs r (t + 1) n a A fl (by omega) (by omega) hB (InvQ_lex hv (fun x y z h k1 k2 k3 k4 k5 k6 => ?_)) hdd
      unfold lex3 at *
      omega
    have sk0 : f_X7_isSomethingTakenAway_65 g K4 K17 (f_X7_isSomethingTakenAway_31 g K4 K17 n) a (nI fl) (nI f) (nI s) (nI t) 0 = f_X7_isSomethingTakenAway_31 g K4 K17 n a (nI fl) (nI f) (nI s) (nI (t + 1)) := by
      unfold f_X7_isSomethingTakenAway_65
      rw [if_pos rfl, show nI t + 1 = nI (t + 1) from nI_1 t]
    rw [e_X7_isSomethingTakenAway_31, vcX hg, if_neg (nI_ge (by omega) (by omega))]
    by_cases c1 : f = s
    · rw [if_pos (by rw [c1]), sk0]
      exact skip (Or.inl c1)
    rw [if_neg (fun h => c1 ((nI_eqs (by omega) (by omega)).mp h))]
    by_cases c2 : f = t
    · rw [if_pos (by rw [c2]), sk0]
      exact skip (Or.inr (Or.inl c2))
    rw [if_neg (fun h => c2 ((nI_eqs (by omega) (by omega)).mp h))]
    by_cases c3 : s = t
    · rw [if_pos (by rw [c3]), sk0]
      exact skip (Or.inr (Or.inr c3))
    rw [if_neg (fun h => c3 ((nI_eqs (by omega) (by omega)).mp h))]
    have lo_ : ∀ x y, x < V → y < V → t_X7_leftOf g a (nI x) (nI y) = nI (A (6 * x + y)) := fun x y hx hy => by
      unfold t_X7_leftOf
      simp only [z6, pk_mul, nI_add]
      rw [at_in (by omega) (by decide), (hv.1 (6 * x + y) (by omega)).1]
    obtain ⟨X, j1, j2, j3⟩ := joinX hB (hv.1 (6 * f + t) (by omega)).2 (hv.1 (6 * t + s) (by omega)).2
    obtain ⟨kk, hkk⟩ : ∃ kk, kk = 6 * f + s := ⟨_, rfl⟩
    obtain ⟨k1, k2⟩ := hv.1 kk (by omega)
    have k3 : A kk &&& X < 2 ^ 9 := Nat.lt_of_le_of_lt Nat.and_le_left k2
    have sl : ∀ v : Int32, t_X7_setLeft g a (nI f) (nI s) v = upA a 39 (upd (a 39) kk v) := fun v => by
      unfold t_X7_setLeft
      simp only [z6, pk_mul, nI_add]
      rw [put_in (by omega) (by decide), hkk]
    have hkd : kk / 6 = f ∧ kk % 6 = s := by omega
    have hrel : relP V kk := by rw [hkk]; exact relP_xy hV hf hs c1
    unfold f_X7_isSomethingTakenAway_65 f_X7_takesAway
    rw [if_neg (show ¬ (1 : Int32) = 0 by decide), lo_ f t hf htV, lo_ t s htV hs, lo_ f s hf hs, ← hkk, j1, Option.bind_some, nI_and, sl, show nI t + 1 = nI (t + 1) from nI_1 t]
    have hB' : Bas d g (upA a 39 (upd (a 39) kk (nI (A kk &&& X)))) := Bas_fr hB rfl (upA_n _ _ (by decide)) (upA_n _ _ (by decide))
    have step : ∀ (A1 : Nat → Nat) (fl1 : Nat), InvQ d V (MX Init (SupP d V)) A0 A1 (upd (a 39) kk (nI (A kk &&& X))) fl1 f s (t + 1) → (∀ k u, (A1 k).testBit u = true → u < d * d ∨ ¬ relP V k) → ∃ h A' fl', f_X7_isSomethingTakenAway_31 g K4 K17 n (upA a 39 (upd (a 39) kk (nI (A kk &&& X)))) (nI fl1) (nI f) (nI s) (nI (t + 1)) = K17 (upA a 39 h) (nI fl') (nI f) (nI (s + 1)) ∧ InvQ d V (MX Init (SupP d V)) A0 A' h fl' f (s + 1) 0 ∧ (∀ k u, (A' k).testBit u = true → u < d * d ∨ ¬ relP V k) := fun A1 fl1 hi hd1 => by
      obtain ⟨h, A', fl', q1, q2⟩ := q31 hV hg hf hs (K4 := K4) (K17 := K17) r (t + 1) n (upA a 39 (upd (a 39) kk (nI (A kk &&& X)))) A1 fl1 (by omega) (by omega) hB' (by rw [upA_s]; exact hi) hd1
      rw [upA_2] at q1
      exact ⟨h, A', fl', q1, q2⟩
    have hfl : fl < 2 := by
      rcases hv.2.2.2 with ⟨q, _⟩ | ⟨q, _⟩ <;> omega
    by_cases he : A kk &&& X = A kk
    · rw [if_pos (show nI (A kk &&& X) = nI (A kk) by rw [he]), Option.bind_some, if_pos (show (0 : Int32) = 0 from rfl)]
      refine step A fl ⟨fun k hk => ?_, hv.2.1, hv.2.2.1, ?_⟩ hdd
      · by_cases hek : k = kk
        · rw [hek, upd_s, he]
          exact ⟨rfl, k2⟩
        · rw [upd_n _ _ hek]
          exact hv.1 k hk
      · rcases hv.2.2.2 with ⟨q1, q2, q3⟩ | q
        · refine Or.inl ⟨q1, q2, fun x y z m1 m2 m3 m4 m5 m6 m7 => ?_⟩
          by_cases hxyz : x = f ∧ y = s ∧ z = t
          · obtain ⟨rfl, rfl, rfl⟩ := hxyz
            intro u hu
            rw [← q2] at hu ⊢
            rw [← hkk, ← he, and_bit, j3] at hu
            exact hu.2.2
          · refine q3 x y z ?_ m2 m3 m4 m5 m6 m7
            unfold lex3 at *
            omega
        · exact Or.inr q
    · rw [if_neg (fun h => he ((nI_eq (by omega) (by omega)).mp h)), Option.bind_some, if_neg (show ¬ (1 : Int32) = 0 by decide)]
      have hsub : ∀ i, (A kk &&& X).testBit i = true → (A kk).testBit i = true := fun i hi => ((and_bit _ _ _).mp hi).1
      have hsb : ∀ k u, ((fun j => if j = kk then A kk &&& X else A j) k).testBit u = true → (A k).testBit u = true := fun k u hu => by
        dsimp only at hu
        by_cases hek : k = kk
        · rw [if_pos hek] at hu
          rw [hek]
          exact hsub u hu
        · rw [if_neg hek] at hu
          exact hu
      refine step (fun j => if j = kk then A kk &&& X else A j) 1 ⟨fun k hk => ?_, ?_, fun k u hu => hv.2.2.1 k u (hsb k u hu), Or.inr ⟨rfl, ?_⟩⟩ (fun k u hu => hdd k u (hsb k u hu))
      · dsimp only
        by_cases hek : k = kk
        · rw [if_pos hek, hek, upd_s]
          exact ⟨rfl, k3⟩
        · rw [if_neg hek, upd_n _ _ hek]
          exact hv.1 k hk
      · refine MXR_keep SupP_mono hv.2.1 (fun k u q1 q2 => ⟨q1.1, ?_⟩)
        dsimp only
        by_cases hek : k = kk
        · rw [if_pos hek, and_bit, j3]
          rw [hek] at q1 q2
          obtain ⟨w, w1, w2, w3⟩ := q2 t htV (by omega) (by omega)
          rw [hkd.1] at w2
          rw [hkd.2] at w3
          exact ⟨q1.2, (hdd kk u q1.2).resolve_right (fun h => h hrel), w, w1, w2.2, w3.2⟩
        · rw [if_neg hek]
          exact q1.2
      · obtain ⟨i, i1, i2⟩ := sub_ne hsub he
        have := ms_lt (A := A) (k := kk) (B := 9) hsub i1 i2 (bit_lt k2 i2) 36 (by omega)
        rcases hv.2.2.2 with ⟨_, q2, _⟩ | ⟨_, q⟩
        · rw [q2] at this ⊢
          exact this
        · omega
theorem q17 {d V : Nat} {Init : Nat → Nat → Prop} {A0 : Nat → Nat} {g : xG} {f : Nat} (hV : V ≤ 6) (hg : g 14 = nI V) (hf : f < V) {K4 : xA → Int32 → Int32 → Option (Int32 × xA)} :
    ∀ (r s n : Nat) (a : xA) (A : Nat → Nat) (fl : Nat), s + r = V → r < n → Bas d g a → InvQ d V (MX Init (SupP d V)) A0 A (a 39) fl f s 0 → (∀ k u, (A k).testBit u = true → u < d * d ∨ ¬ relP V k) →
    ∃ h A' fl', f_X7_isSomethingTakenAway_17 g K4 n a (nI fl) (nI f) (nI s) = K4 (upA a 39 h) (nI fl') (nI (f + 1)) ∧ InvQ d V (MX Init (SupP d V)) A0 A' h fl' (f + 1) 0 0 ∧ (∀ k u, (A' k).testBit u = true → u < d * d ∨ ¬ relP V k)
  | 0, s, n, a, A, fl, ht, hn, hB, hv, hdd => by
    obtain ⟨n, rfl⟩ := pos_of hn
    refine ⟨a 39, A, fl, ?_, InvQ_lex hv (fun x y z h k1 k2 k3 _ _ _ => ?_), hdd⟩
    · rw [e_X7_isSomethingTakenAway_17, vcX hg, if_pos (nI_le (by omega) (by omega)), upA_id, show nI f + 1 = nI (f + 1) from nI_1 f]
    · unfold lex3 at *
      omega
  | r + 1, s, n, a, A, fl, ht, hn, hB, hv, hdd => by
    obtain ⟨n, rfl⟩ := pos_of hn
    obtain ⟨h1, A1, fl1, e1, e2, e3⟩ := q31 hV hg hf (s := s) (by omega) (K4 := K4) (K17 := f_X7_isSomethingTakenAway_17 g K4 n) V 0 fu a A fl (by omega) (fu_gt (by omega)) hB hv hdd
    obtain ⟨h2, A2, fl2, e4, e5⟩ := q17 hV hg hf (K4 := K4) r (s + 1) n (upA a 39 h1) A1 fl1 (by omega) (by omega) (Bas_fr hB rfl (upA_n _ _ (by decide)) (upA_n _ _ (by decide))) (by rw [upA_s]; exact e2) e3
    rw [upA_2] at e4
    refine ⟨h2, A2, fl2, ?_, e5⟩
    rw [e_X7_isSomethingTakenAway_17, vcX hg, if_neg (nI_ge (by omega) (by omega))]
    exact e1.trans e4
theorem q4 {d V : Nat} {Init : Nat → Nat → Prop} {A0 : Nat → Nat} {g : xG} (hV : V ≤ 6) (hg : g 14 = nI V) :
    ∀ (r f n : Nat) (a : xA) (A : Nat → Nat) (fl : Nat), f + r = V → r < n → Bas d g a → InvQ d V (MX Init (SupP d V)) A0 A (a 39) fl f 0 0 → (∀ k u, (A k).testBit u = true → u < d * d ∨ ¬ relP V k) →
    ∃ h A' fl', f_X7_isSomethingTakenAway_4 g n a (nI fl) (nI f) = some (nI fl', upA a 39 h) ∧ InvQ d V (MX Init (SupP d V)) A0 A' h fl' V 0 0 ∧ (∀ k u, (A' k).testBit u = true → u < d * d ∨ ¬ relP V k)
  | 0, f, n, a, A, fl, ht, hn, hB, hv, hdd => by
    obtain ⟨n, rfl⟩ := pos_of hn
    have e : f = V := by omega
    subst e
    have hfl : fl = 0 ∨ fl = 1 := by
      rcases hv.2.2.2 with ⟨q, _⟩ | ⟨q, _⟩
      · exact Or.inl q
      · exact Or.inr q
    refine ⟨a 39, A, fl, ?_, hv, hdd⟩
    rw [e_X7_isSomethingTakenAway_4, vcX hg, if_pos (nI_le (by omega) (by omega)), ck_t (boB_b hfl), upA_id]
  | r + 1, f, n, a, A, fl, ht, hn, hB, hv, hdd => by
    obtain ⟨n, rfl⟩ := pos_of hn
    obtain ⟨h1, A1, fl1, e1, e2, e3⟩ := q17 hV hg (f := f) (by omega) (K4 := f_X7_isSomethingTakenAway_4 g n) V 0 fu a A fl (by omega) (fu_gt (by omega)) hB hv hdd
    obtain ⟨h2, A2, fl2, e4, e5⟩ := q4 hV hg r (f + 1) n (upA a 39 h1) A1 fl1 (by omega) (by omega) (Bas_fr hB rfl (upA_n _ _ (by decide)) (upA_n _ _ (by decide))) (by rw [upA_s]; exact e2) e3
    rw [upA_2] at e4
    refine ⟨h2, A2, fl2, ?_, e5⟩
    rw [e_X7_isSomethingTakenAway_4, vcX hg, if_neg (nI_ge (by omega) (by omega))]
    exact e1.trans e4
theorem ov6 {d V : Nat} {Init : Nat → Nat → Prop} {g : xG} {x y : Nat} (hV : V ≤ 6) (hg : g 14 = nI V) (hx : x < V) (hy : y < V) :
    ∀ (r q n : Nat) (a : xA) (A : Nat → Nat), q + r = 325 → r < n → ms 9 A 36 + q ≤ 324 → Bas d g a → (∀ k, k < 36 → a 39 k = nI (A k) ∧ A k < 2 ^ 9) → (∀ k u, hr (relP V) A k u → Init k u) → (∀ k u, (A k).testBit u = true → u < d * d ∨ ¬ relP V k) → (∀ k u, MX Init (SupP d V) k u → hr (relP V) A k u) →
    ∃ h A', f_X7_ofVariables_6 g n a (nI x) (nI y) (nI q) = some (nI (A' (6 * x + y)), upA a 39 h) ∧ ∀ k u, hr (relP V) A' k u ↔ MX Init (SupP d V) k u
  | 0, q, n, a, A, hq, hn, hms, hB, ha, hi, hdd, hm => by omega
  | r + 1, q, n, a, A, hq, hn, hms, hB, ha, hi, hdd, hm => by
    obtain ⟨n, rfl⟩ := pos_of hn
    obtain ⟨h, A1, fl, e1, e2, e3⟩ := q4 (A0 := A) hV hg V 0 fu a A 0 (by omega) (fu_gt (by omega)) hB ⟨ha, hm, fun _ _ h => h, Or.inl ⟨rfl, rfl, fun x y z h => by unfold lex3 at h; omega⟩⟩ hdd
    have e1' : f_X7_isSomethingTakenAway g a = some (nI fl, upA a 39 h) := e1
    rw [e_X7_ofVariables_6, show ((9 : Int32) * 36) = nI 324 by decide, if_neg (nI_nlt (by omega) (by omega)), e1', Option.bind_some, show nI q + 1 = nI (q + 1) from nI_1 q]
    rcases e2.2.2.2 with ⟨q1, q2, q3⟩ | ⟨q1, q2⟩
    · refine ⟨h, A1, ?_, fun k u => MXR_eq (fun k u hk => ⟨hi k u (q2 ▸ hk), fun z z1 z2 z3 => ?_⟩) e2.2.1 k u⟩
      · rw [q1, if_pos (show nI 0 = 0 from rfl)]
        unfold f_X7_ofVariables_34 t_X7_leftOf
        show some (atF 36 (upA a 39 h 39) (6 * nI x + nI y), upA a 39 h) = _
        rw [upA_s]
        simp only [z6, pk_mul, nI_add]
        rw [at_in (by omega) (by decide), (e2.1 (6 * x + y) (by omega)).1]
      · rw [q2] at hk ⊢
        obtain ⟨k1, k2, k3, k4⟩ := hk.1
        have hk6 : 6 * (k / 6) + k % 6 = k := Nat.div_add_mod k 6
        obtain ⟨w, w1, w2, w3⟩ := q3 (k / 6) (k % 6) z (Or.inl k2) k2 k3 z1 k4 z2.symm z3.symm u (by rw [hk6]; exact hk.2)
        exact ⟨w, w1, ⟨relP_xy hV k2 z1 z2.symm, w2⟩, ⟨relP_xy hV z1 k3 z3, w3⟩⟩
    · obtain ⟨h2, A2, e4, e5⟩ := ov6 hV hg hx hy r (q + 1) n (upA a 39 h) A1 (by omega) (by omega) (by omega) (Bas_fr hB rfl (upA_n _ _ (by decide)) (upA_n _ _ (by decide))) (by rw [upA_s]; exact e2.1) (fun k u hk => hi k u ⟨hk.1, e2.2.2.1 k u hk.2⟩) e3 e2.2.1
      rw [upA_2] at e4
      refine ⟨h2, A2, ?_, e5⟩
      rw [q1, if_neg (show ¬ nI 1 = 0 by decide)]
      exact e4
theorem pairsX {d V C : Nat} {cr P : Nat → Nat} {cv : Nat → Nat → Nat} {TC : Nat → Nat} {g : xG} {a : xA} {x y : Nat} (hx : x < V) (hy : y < V) (hB : Bas d g a) (hI : Ins d 1 V C cr P cv TC g a) :
    ∃ (h h' : Nat → Int32) (A : Nat → Nat), f_X7_ofVariables g a (nI x) (nI y) = some (nI (A (6 * x + y)), upA (upA a 39 h) 39 h') ∧ ∀ k u, hr (relP V) A k u ↔ MX (InitP d V C P cv TC) (SupP d V) k u := by
  have hV := hI.2.1
  obtain ⟨h, A, e1, e2, e3⟩ := firstX hB hI
  have hk6 : ∀ k, 6 * (k / 6) + k % 6 = k := fun k => Nat.div_add_mod k 6
  have hh : ∀ k, relP V k → ∀ u, (A k).testBit u = true ↔ u < d * d ∧ ∀ c', c' < C → PC d P cv TC c' (k / 6) (k % 6) u := fun k hk u => by
    have := e3 (k / 6) (k % 6) hk.2.1 hk.2.2.1 hk.2.2.2 u
    rw [hk6] at this
    exact this
  obtain ⟨h', A', e4, e5⟩ := ov6 (Init := InitP d V C P cv TC) hV hI.2.2.2.1 hx hy 325 0 fu (upA a 39 h) A rfl (fu_gt (by omega)) (ms_le (B := 9) (A := A) 36) (Bas_fr hB rfl (upA_n _ _ (by decide)) (upA_n _ _ (by decide))) (by rw [upA_s]; exact e2) (fun k u hk => ⟨hk.1, (hh k hk.1 u).mp hk.2⟩) (fun k u hu => by
    by_cases hk : relP V k
    · exact Or.inl ((hh k hk u).mp hu).1
    · exact Or.inr hk) (fun k u q => by
    obtain ⟨S, h1, h2⟩ := q
    obtain ⟨⟨k1, k2, k3⟩, _⟩ := h1 k u h2
    exact ⟨k1, (hh k k1 u).mpr ⟨k2, k3⟩⟩)
  refine ⟨h, h', A', ?_, e5⟩
  unfold f_X7_ofVariables
  rw [e1, Option.bind_some]
  exact e4
