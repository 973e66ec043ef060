/-! pairs: the model, and the call. -/
def Both (d : Nat) (P : Nat → Nat) (cv : Nat → Nat → Nat) (c x y v o t : Nat) : Prop := ∀ p, p < P c → (cv c p = x → dg d t p = v) ∧ (cv c p = y → dg d t p = o)
theorem cb69 {d V C : Nat} {cr P : Nat → Nat} {cv : Nat → Nat → Nat} {TC : Nat → Nat} {g : xG} {a : xA} (hd : d = 2 ∨ d = 3) (h0 : g 0 = nI d) (hI : InsM d V C cr P cv TC g a) {c x y v o t : Nat} (hc : c < C) (hx : x < 100) (hy : y < 100) (hxy : x ≠ y) (hv : v < 100) (ho : o < 100) (ht : t < d ^ P c) {K6 : Int32 → Int32 → Int32 → Int32 → Int32 → Int32 → Option Int32} {K35 : Int32 → Int32 → Int32 → Int32 → Int32 → Int32 → Int32 → Int32 → Option Int32} :
    ∀ (r p n : Nat) (b0 : Bool), p + r = P c → r < n → ∃ b : Bool, f_X12_canBoth_69 g a K6 K35 n (nI x) (nI v) (nI y) (nI o) (nI c) (nI (cr c)) (if b0 then 1 else 0) (nI t) (nI p) = K35 (nI x) (nI v) (nI y) (nI o) (nI c) (nI (cr c)) (if b then 1 else 0) (nI (t + 1)) ∧ (b = true ↔ b0 = true ∧ ∀ p', p ≤ p' → p' < P c → (cv c p' = x → dg d t p' = v) ∧ (cv c p' = y → dg d t p' = o))
  | 0, p, n, b0, hp, hn => by
    obtain ⟨n, rfl⟩ := pos_of hn
    obtain ⟨h1, h2, h3, h4, h5, h6, h7, h8⟩ := hI.2.2.2.2 c hc
    refine ⟨b0, ?_, fun q => ⟨q, fun p' h1 h2 => by omega⟩, fun q => q.1⟩
    rw [e_X12_canBoth_69, ck_t (inB_t (by omega) (by decide)), nI_clamp (by omega), h3, if_pos (nI_le (by omega) (by omega)), show nI t + 1 = nI (t + 1) from nI_1 t]
  | r + 1, p, n, b0, hp, hn => by
    obtain ⟨n, rfl⟩ := pos_of hn
    have hV := hI.1
    have hC := hI.2.1
    obtain ⟨h1, h2, h3, h4, h5, h6, h7, h8⟩ := hI.2.2.2.2 c hc
    have h9' := pw9 hd h7
    have v1 := h8 p (by omega)
    have hdg := dg_lt (d := d) (by omega) t p
    rw [e_X12_canBoth_69, ck_t (inB_t (by omega) (by decide)), nI_clamp (by omega), h3, if_neg (nI_ge (by omega) (by omega))]
    cases b0 with
    | false =>
      refine ⟨false, ?_, fun q => (by cases q), fun q => q.1⟩
      rw [if_pos (by decide), show nI t + 1 = nI (t + 1) from nI_1 t]
    | true =>
      have step : ∀ s0 : Nat, s0 < 100 → ((dg d t p = s0) ↔ (cv c p = x → dg d t p = v) ∧ (cv c p = y → dg d t p = o)) → ∃ b : Bool, f_X12_canBoth_129 g a K6 K35 (f_X12_canBoth_69 g a K6 K35 n) (nI x) (nI v) (nI y) (nI o) (nI c) (nI (cr c)) (nI t) (nI p) (nI s0) = K35 (nI x) (nI v) (nI y) (nI o) (nI c) (nI (cr c)) (if b then 1 else 0) (nI (t + 1)) ∧ (b = true ↔ True ∧ ∀ p', p ≤ p' → p' < P c → (cv c p' = x → dg d t p' = v) ∧ (cv c p' = y → dg d t p' = o)) := fun s0 hs hb1 => by
        have st2 : ∀ b1 : Bool, (b1 = true ↔ (cv c p = x → dg d t p = v) ∧ (cv c p = y → dg d t p = o)) → ∃ b : Bool, f_X12_canBoth_69 g a K6 K35 n (nI x) (nI v) (nI y) (nI o) (nI c) (nI (cr c)) (if b1 then 1 else 0) (nI t) (nI (p + 1)) = K35 (nI x) (nI v) (nI y) (nI o) (nI c) (nI (cr c)) (if b then 1 else 0) (nI (t + 1)) ∧ (b = true ↔ True ∧ ∀ p', p ≤ p' → p' < P c → (cv c p' = x → dg d t p' = v) ∧ (cv c p' = y → dg d t p' = o)) := fun b1 hb1 => by
          obtain ⟨b, e1, e2⟩ := cb69 hd h0 hI hc hx hy hxy hv ho ht (K6 := K6) (K35 := K35) r (p + 1) n b1 (by omega) (by omega)
          refine ⟨b, e1, e2.trans ⟨fun q2 => ⟨trivial, fun p' k1 k2 => ?_⟩, fun q2 => ⟨hb1.mpr (q2.2 p (Nat.le_refl _) (by omega)), fun p' k1 k2 => q2.2 p' (by omega) k2⟩⟩⟩
          by_cases he : p' = p
          · rw [he]
            exact hb1.mp q2.1
          · exact q2.2 p' (by omega) k2
        unfold f_X12_canBoth_129
        rw [onM hd (by omega) h0 (by omega), Option.bind_some, show nI p + 1 = nI (p + 1) from nI_1 p]
        by_cases e : dg d t p = s0
        · rw [if_pos (by rw [e])]
          exact st2 true ⟨fun _ => hb1.mp e, fun _ => rfl⟩
        · rw [if_neg (fun h => e ((nI_eqs (by omega) hs).mp h))]
          exact st2 false ⟨fun k => (by cases k), fun k => absurd (hb1.mpr k) e⟩
      rw [if_neg (by decide)]
      simp only [z3, pk_mul, nI_add]
      rw [ck_t (inB_t (by omega) (by decide)), nI_clamp (by omega), v1.1]
      by_cases e : cv c p = x
      · rw [if_pos (by rw [e])]
        exact step v hv ⟨fun q => ⟨fun _ => q, fun k => absurd (e.symm.trans k) hxy⟩, fun q => q.1 e⟩
      · rw [if_neg (fun h => e ((nI_eqs (by omega) (by omega)).mp h))]
        by_cases e2 : cv c p = y
        · rw [if_pos (by rw [e2])]
          exact step o ho ⟨fun q => ⟨fun k => absurd k e, fun _ => q⟩, fun q => q.2 e2⟩
        · rw [if_neg (fun h => e2 ((nI_eqs (by omega) (by omega)).mp h)), onM hd (by omega) h0 (by omega), Option.bind_some]
          exact step (dg d t p) (by omega) ⟨fun _ => ⟨fun k => absurd k e, fun k => absurd k e2⟩, fun _ => rfl⟩
theorem cb35 {d V C : Nat} {cr P : Nat → Nat} {cv : Nat → Nat → Nat} {TC : Nat → Nat} {g : xG} {a : xA} (hd : d = 2 ∨ d = 3) (h0 : g 0 = nI d) (hI : InsM d V C cr P cv TC g a) {c x y v o : Nat} (hc : c < C) (hx : x < 100) (hy : y < 100) (hxy : x ≠ y) (hv : v < 100) (ho : o < 100) {K6 : Int32 → Int32 → Int32 → Int32 → Int32 → Int32 → Option Int32} :
    ∀ (r t n : Nat) (b0 : Bool), t + r = d ^ P c → r < n → ∃ b : Bool, f_X12_canBoth_35 g a K6 n (nI x) (nI v) (nI y) (nI o) (nI c) (nI (cr c)) (if b0 then 1 else 0) (nI t) = K6 (nI x) (nI v) (nI y) (nI o) (if b then 1 else 0) (nI (c + 1)) ∧ (b = true ↔ b0 = true ∨ ∃ t', t ≤ t' ∧ Stn d (P c) (TC c) (cv c) t' ∧ Both d P cv c x y v o t')
  | 0, t, n, b0, hp, hn => by
    obtain ⟨n, rfl⟩ := pos_of hn
    obtain ⟨h1, h2, h3, h4, h5, h6, h7, h8⟩ := hI.2.2.2.2 c hc
    have h9' := pw9 hd h7
    refine ⟨b0, ?_, fun q => Or.inl q, fun q => ?_⟩
    · rw [e_X12_canBoth_35, ck_t (inB_t (by omega) (by decide)), nI_clamp (by omega), h3, pwM (by omega) h0, Option.bind_some, if_pos (nI_le (by omega) (by omega)), show nI c + 1 = nI (c + 1) from nI_1 c]
    · rcases q with q | ⟨t', q1, q2, _⟩
      · exact q
      · have := q2.1
        omega
  | r + 1, t, n, b0, hp, hn => by
    obtain ⟨n, rfl⟩ := pos_of hn
    have hC := hI.2.1
    obtain ⟨h1, h2, h3, h4, h5, h6, h7, h8⟩ := hI.2.2.2.2 c hc
    have h9' := pw9 hd h7
    rw [e_X12_canBoth_35, ck_t (inB_t (by omega) (by decide)), nI_clamp (by omega), h3, pwM (by omega) h0, Option.bind_some, if_neg (nI_ge (by omega) (by omega))]
    cases b0 with
    | true =>
      refine ⟨true, ?_, fun _ => Or.inl rfl, fun _ => rfl⟩
      rw [if_neg (by decide), show nI c + 1 = nI (c + 1) from nI_1 c]
    | false =>
      obtain ⟨b1, e1, e2⟩ := standM hd h0 hI hc (t := t) (by omega)
      obtain ⟨b2, e3, e4⟩ := cb69 hd h0 hI hc hx hy hxy hv ho (t := t) (by omega) (K6 := K6) (K35 := f_X12_canBoth_35 g a K6 n) (P c) 0 fu b1 (by omega) (fu_gt (by omega))
      obtain ⟨b, e5, e6⟩ := cb35 hd h0 hI hc hx hy hxy hv ho (K6 := K6) r (t + 1) n b2 (by omega) (by omega)
      refine ⟨b, ?_, e6.trans ⟨fun q => Or.inr ?_, fun q => ?_⟩⟩
      · rw [if_pos (by decide), e1, Option.bind_some]
        exact e3.trans e5
      · rcases q with q | ⟨t', q1, q2⟩
        · obtain ⟨k1, k2⟩ := e4.mp q
          exact ⟨t, Nat.le_refl _, e2.mp k1, fun p hp => k2 p (Nat.zero_le _) hp⟩
        · exact ⟨t', by omega, q2⟩
      · rcases q with q | ⟨t', q1, q2⟩
        · cases q
        · by_cases he : t' = t
          · subst he
            exact Or.inl (e4.mpr ⟨e2.mpr q2.1, fun p _ hp => q2.2 p hp⟩)
          · exact Or.inr ⟨t', by omega, q2⟩
theorem cb6 {d V C : Nat} {cr P : Nat → Nat} {cv : Nat → Nat → Nat} {TC : Nat → Nat} {g : xG} {a : xA} (hd : d = 2 ∨ d = 3) (h0 : g 0 = nI d) (hI : InsM d V C cr P cv TC g a) {x y v o : Nat} (hx : x < 100) (hy : y < 100) (hxy : x ≠ y) (hv : v < 100) (ho : o < 100) :
    ∀ (r c n : Nat) (b0 : Bool), c + r = C → r < n → ∃ b : Bool, f_X12_canBoth_6 g a n (nI x) (nI v) (nI y) (nI o) (if b0 then 1 else 0) (nI c) = some (if b then 1 else 0) ∧ (b = true ↔ b0 = true ∧ ∀ c', c ≤ c' → c' < C → ∃ t', Stn d (P c') (TC c') (cv c') t' ∧ Both d P cv c' x y v o t')
  | 0, c, n, b0, hp, hn => by
    obtain ⟨n, rfl⟩ := pos_of hn
    have hC := hI.2.1
    refine ⟨b0, ?_, fun q => ⟨q, fun c' h1 h2 => by omega⟩, fun q => q.1⟩
    rw [e_X12_canBoth_6, hI.2.2.2.1, if_pos (nI_le (by omega) (by omega)), ck_t]
    cases b0 <;> decide
  | r + 1, c, n, b0, hp, hn => by
    obtain ⟨n, rfl⟩ := pos_of hn
    have hC := hI.2.1
    rw [e_X12_canBoth_6, hI.2.2.2.1, if_neg (nI_ge (by omega) (by omega))]
    cases b0 with
    | false =>
      refine ⟨false, ?_, fun q => (by cases q), fun q => q.1⟩
      rw [if_pos (by decide), ck_t (by decide)]
    | true =>
      obtain ⟨h1, h2, h3, h4, h5, h6, h7, h8⟩ := hI.2.2.2.2 c (by omega)
      have h9' := pw9 hd h7
      obtain ⟨b1, e1, e2⟩ := cb35 hd h0 hI (c := c) (by omega) hx hy hxy hv ho (K6 := f_X12_canBoth_6 g a n) (d ^ P c) 0 fu false (by omega) (fu_gt (by omega))
      obtain ⟨b, e3, e4⟩ := cb6 hd h0 hI hx hy hxy hv ho r (c + 1) n b1 (by omega) (by omega)
      have e2' : b1 = true ↔ ∃ t', Stn d (P c) (TC c) (cv c) t' ∧ Both d P cv c x y v o t' := e2.trans ⟨fun q => by
        rcases q with q | ⟨t', _, q⟩
        · cases q
        · exact ⟨t', q⟩, fun ⟨t', q⟩ => Or.inr ⟨t', Nat.zero_le _, q⟩⟩
      refine ⟨b, ?_, e4.trans ⟨fun q => ⟨rfl, fun c' k1 k2 => ?_⟩, fun q => ⟨e2'.mpr (q.2 c (Nat.le_refl _) (by omega)), fun c' k1 k2 => q.2 c' (by omega) k2⟩⟩⟩
      · rw [if_neg (by decide), ck_t (inB_t (by omega) (by decide)), nI_clamp (by omega), h2]
        exact e1.trans e3
      · by_cases he : c' = c
        · rw [he]
          exact e2'.mp q.1
        · exact q.2 c' (by omega) k2
theorem bothM {d V C : Nat} {cr P : Nat → Nat} {cv : Nat → Nat → Nat} {TC : Nat → Nat} {g : xG} {a : xA} (hd : d = 2 ∨ d = 3) (h0 : g 0 = nI d) (hI : InsM d V C cr P cv TC g a) {x y u : Nat} (hx : x < 100) (hy : y < 100) (hxy : x ≠ y) (hu : u < 100) :
    ∃ b : Bool, f_X12_canBoth g a (nI x) (nI (u % d)) (nI y) (nI (u / d)) = some (if b then 1 else 0) ∧ (b = true ↔ ∀ c', c' < C → PC d P cv TC c' x y u) := by
  have h1 := Nat.mod_le u d
  have h2 := Nat.div_le_self u d
  obtain ⟨b, e1, e2⟩ := cb6 hd h0 hI hx hy hxy (v := u % d) (o := u / d) (by omega) (by omega) C 0 fu true (by omega) (fu_gt (by have := hI.2.1; omega))
  refine ⟨b, e1, e2.trans ⟨fun q c' hc => ?_, fun q => ⟨rfl, fun c' _ hc => ?_⟩⟩⟩
  · obtain ⟨t, t1, t2⟩ := q.2 c' (Nat.zero_le _) hc
    exact ⟨t, t1, fun p hp => (t2 p hp).1, fun p hp => (t2 p hp).2⟩
  · obtain ⟨t, t1, t2, t3⟩ := q c' hc
    exact ⟨t, t1, fun p hp => ⟨t2 p hp, t3 p hp⟩⟩
theorem ib38 {d V : Nat} {A : Nat → Nat} {g : xG} {a : xA} (hd : d = 2 ∨ d = 3) (h0 : g 0 = nI d) (hA : ∀ k, k < 36 → a 13 k = nI (A k) ∧ A k < 2 ^ 9) {x y z v o : Nat} (hx : x < 6) (hy : y < 6) (hz : z < 6) (hv : v < d) (ho : o < d) {K6 : Int32 → Int32 → Int32 → Int32 → Int32 → Int32 → Option Int32} :
    ∀ (r w n : Nat) (b0 : Bool), w + r = d → r < n → ∃ b : Bool, f_X12_isBetween_38 g a K6 n (nI x) (nI v) (nI y) (nI o) (nI z) (if b0 then 1 else 0) (nI w) = K6 (nI x) (nI v) (nI y) (nI o) (if b then 1 else 0) (nI (z + 1)) ∧ (b = true ↔ b0 = true ∨ ∃ w', w ≤ w' ∧ w' < d ∧ (A (6 * x + z)).testBit (v + d * w') = true ∧ (A (6 * z + y)).testBit (w' + d * o) = true)
  | 0, w, n, b0, hp, hn => by
    obtain ⟨n, rfl⟩ := pos_of hn
    refine ⟨b0, ?_, fun q => Or.inl q, fun q => ?_⟩
    · rw [e_X12_isBetween_38, h0, if_pos (nI_le (by omega) (by omega)), show nI z + 1 = nI (z + 1) from nI_1 z]
    · rcases q with q | ⟨w', q1, q2, _⟩
      · exact q
      · omega
  | r + 1, w, n, b0, hp, hn => by
    obtain ⟨n, rfl⟩ := pos_of hn
    have hdw : d * w + d ≤ 9 := by
      have h1 : d * (w + 1) ≤ d * d := Nat.mul_le_mul_left _ (by omega)
      rw [Nat.mul_add, Nat.mul_one] at h1
      have := dd9 hd
      omega
    have hdo : d * o + d ≤ 9 := by
      have h1 : d * (o + 1) ≤ d * d := Nat.mul_le_mul_left _ (by omega)
      rw [Nat.mul_add, Nat.mul_one] at h1
      have := dd9 hd
      omega
    have step : ∀ b1 : Bool, (b1 = true ↔ b0 = true ∨ ((A (6 * x + z)).testBit (v + d * w) = true ∧ (A (6 * z + y)).testBit (w + d * o) = true)) → ∃ b : Bool, f_X12_isBetween_38 g a K6 n (nI x) (nI v) (nI y) (nI o) (nI z) (if b1 then 1 else 0) (nI (w + 1)) = K6 (nI x) (nI v) (nI y) (nI o) (if b then 1 else 0) (nI (z + 1)) ∧ (b = true ↔ b0 = true ∨ ∃ w', w ≤ w' ∧ w' < d ∧ (A (6 * x + z)).testBit (v + d * w') = true ∧ (A (6 * z + y)).testBit (w' + d * o) = true) := fun b1 hb1 => by
      obtain ⟨b, e1, e2⟩ := ib38 (V := V) hd h0 hA hx hy hz hv ho (K6 := K6) r (w + 1) n b1 (by omega) (by omega)
      refine ⟨b, e1, e2.trans ⟨fun q => ?_, fun q => ?_⟩⟩
      · rcases q with q | ⟨w', q1, q2⟩
        · rcases hb1.mp q with q | q
          · exact Or.inl q
          · exact Or.inr ⟨w, Nat.le_refl _, by omega, q⟩
        · exact Or.inr ⟨w', by omega, q2⟩
      · rcases q with q | ⟨w', q1, q2, q3⟩
        · exact Or.inl (hb1.mpr (Or.inl q))
        · by_cases he : w' = w
          · subst he
            exact Or.inl (hb1.mpr (Or.inr q3))
          · exact Or.inr ⟨w', by omega, q2, q3⟩
    obtain ⟨k1, k2⟩ := hA (6 * x + z) (by omega)
    obtain ⟨k3, k4⟩ := hA (6 * z + y) (by omega)
    rw [e_X12_isBetween_38, h0, if_neg (nI_ge (by omega) (by omega)), show nI w + 1 = nI (w + 1) from nI_1 w]
    cases b0 with
    | true =>
      rw [if_neg (by decide)]
      exact step true ⟨fun _ => Or.inl rfl, fun _ => rfl⟩
    | false =>
      rw [if_pos (by decide), z6, pk_mul, nI_add, pk_mul, nI_add, pk_mul, nI_add, pk_mul, nI_add, ck_t (inB_t (by omega) (by decide)), nI_clamp (by omega), k1, isInM (by omega) (by omega), ck_t (inB_t (by omega) (by decide)), nI_clamp (by omega), k3, isInM (by omega) (by omega)]
      cases hb1 : (A (6 * x + z)).testBit (v + d * w) with
      | false =>
        rw [if_pos (by decide)]
        exact step false ⟨fun k => (by cases k), fun k => by
          rcases k with k | ⟨k, _⟩
          · exact k
          · rw [hb1] at k; cases k⟩
      | true =>
        rw [if_neg (by decide)]
        cases hb2 : (A (6 * z + y)).testBit (w + d * o) with
        | false =>
          rw [if_pos (by decide)]
          exact step false ⟨fun k => (by cases k), fun k => by
            rcases k with k | ⟨_, k⟩
            · exact k
            · rw [hb2] at k; cases k⟩
        | true =>
          rw [if_neg (by decide)]
          exact step true ⟨fun _ => Or.inr ⟨hb1, hb2⟩, fun _ => rfl⟩
theorem ib6 {d V : Nat} {A : Nat → Nat} {g : xG} {a : xA} (hd : d = 2 ∨ d = 3) (h0 : g 0 = nI d) (hV : V ≤ 6) (hg : g 6 = nI V) (hA : ∀ k, k < 36 → a 13 k = nI (A k) ∧ A k < 2 ^ 9) {x y v o : Nat} (hx : x < 6) (hy : y < 6) (hv : v < d) (ho : o < d) :
    ∀ (r z n : Nat) (b0 : Bool), z + r = V → r < n → ∃ b : Bool, f_X12_isBetween_6 g a n (nI x) (nI v) (nI y) (nI o) (if b0 then 1 else 0) (nI z) = some (if b then 1 else 0) ∧ (b = true ↔ b0 = true ∧ ∀ z', z ≤ z' → z' < V → z' ≠ x → z' ≠ y → ∃ w', w' < d ∧ (A (6 * x + z')).testBit (v + d * w') = true ∧ (A (6 * z' + y)).testBit (w' + d * o) = true)
  | 0, z, n, b0, hp, hn => by
    obtain ⟨n, rfl⟩ := pos_of hn
    refine ⟨b0, ?_, fun q => ⟨q, fun c' h1 h2 => by omega⟩, fun q => q.1⟩
    rw [e_X12_isBetween_6, hg, if_pos (nI_le (by omega) (by omega)), ck_t]
    cases b0 <;> decide
  | r + 1, z, n, b0, hp, hn => by
    obtain ⟨n, rfl⟩ := pos_of hn
    rw [e_X12_isBetween_6, hg, if_neg (nI_ge (by omega) (by omega)), show nI z + 1 = nI (z + 1) from nI_1 z]
    cases b0 with
    | false =>
      refine ⟨false, ?_, fun q => (by cases q), fun q => q.1⟩
      rw [if_pos (by decide), ck_t (by decide)]
    | true =>
      rw [if_neg (by decide)]
      have skip : (z = x ∨ z = y) → ∃ b : Bool, f_X12_isBetween_6 g a n (nI x) (nI v) (nI y) (nI o) (if true = true then 1 else 0) (nI (z + 1)) = some (if b then 1 else 0) ∧ (b = true ↔ true = true ∧ ∀ z', z ≤ z' → z' < V → z' ≠ x → z' ≠ y → ∃ w', w' < d ∧ (A (6 * x + z')).testBit (v + d * w') = true ∧ (A (6 * z' + y)).testBit (w' + d * o) = true) := fun hsk => by
        obtain ⟨b, e3, e4⟩ := ib6 hd h0 hV hg hA hx hy hv ho r (z + 1) n true (by omega) (by omega)
        refine ⟨b, e3, e4.trans ⟨fun q => ⟨rfl, fun z' k1 k2 k3 k4 => q.2 z' (by omega) k2 k3 k4⟩, fun q => ⟨rfl, fun z' k1 k2 => q.2 z' (by omega) k2⟩⟩⟩
      by_cases c1 : z = x
      · rw [if_pos (by rw [c1])]
        exact skip (Or.inl c1)
      rw [if_neg (fun h => c1 ((nI_eqs (by omega) (by omega)).mp h))]
      by_cases c2 : z = y
      · rw [if_pos (by rw [c2])]
        exact skip (Or.inr c2)
      rw [if_neg (fun h => c2 ((nI_eqs (by omega) (by omega)).mp h))]
      obtain ⟨b1, e1, e2⟩ := ib38 (V := V) hd h0 hA hx hy (z := z) (by omega) hv ho (K6 := f_X12_isBetween_6 g a n) d 0 fu false (by omega) (fu_gt (by omega))
      obtain ⟨b, e3, e4⟩ := ib6 hd h0 hV hg hA hx hy hv ho r (z + 1) n b1 (by omega) (by omega)
      refine ⟨b, e1.trans e3, e4.trans ⟨fun q => ⟨rfl, fun z' k1 k2 k3 k4 => ?_⟩, fun q => ⟨e2.mpr (Or.inr ?_), fun z' k1 k2 => q.2 z' (by omega) k2⟩⟩⟩
      · by_cases he : z' = z
        · rw [he]
          rcases e2.mp q.1 with q | ⟨w', _, q⟩
          · cases q
          · exact ⟨w', q⟩
        · exact q.2 z' (by omega) k2 k3 k4
      · obtain ⟨w', q⟩ := q.2 z (Nat.le_refl _) (by omega) c1 c2
        exact ⟨w', Nat.zero_le _, q⟩
theorem betwM {d V : Nat} {A : Nat → Nat} {g : xG} {a : xA} (hd : d = 2 ∨ d = 3) (h0 : g 0 = nI d) (hV : V ≤ 6) (hg : g 6 = nI V) (hA : ∀ k, k < 36 → a 13 k = nI (A k) ∧ A k < 2 ^ 9) {k u : Nat} (hk : relP V k) (hu : u < d * d) :
    ∃ b : Bool, f_X12_isBetween g a (nI (k / 6)) (nI (u % d)) (nI (k % 6)) (nI (u / d)) = some (if b then 1 else 0) ∧ (b = true ↔ SupP d V (hr (relP V) A) k u) := by
  obtain ⟨k1, k2, k3, k4⟩ := hk
  obtain ⟨b, e1, e2⟩ := ib6 hd h0 hV hg hA (x := k / 6) (y := k % 6) (v := u % d) (o := u / d) (by omega) (by omega) (Nat.mod_lt _ (by omega)) ((Nat.div_lt_iff_lt_mul (by omega)).mpr hu) V 0 fu true (by omega) (fu_gt (by omega))
  refine ⟨b, e1, e2.trans ⟨fun q z z1 z2 z3 => ?_, fun q => ⟨rfl, fun z _ z1 z2 z3 => ?_⟩⟩⟩
  · obtain ⟨w, w1, w2, w3⟩ := q.2 z (Nat.zero_le _) z1 z2 z3
    exact ⟨w, w1, ⟨relP_xy hV k2 z1 z2.symm, w2⟩, ⟨relP_xy hV z1 k3 z3, w3⟩⟩
  · obtain ⟨w, w1, w2, w3⟩ := q z z1 z2 z3
    exact ⟨w, w1, w2.2, w3.2⟩
