/-! Tuples that can stand in a constraint, both sides. -/
def Stn (d n T : Nat) (v : Nat → Nat) (t : Nat) : Prop := t < d ^ n ∧ T.testBit t = true ∧ ∀ p p', p < n → p' < n → v p = v p' → dg d t p = dg d t p'
theorem like_sym {n : Nat} {v x : Nat → Nat} : (∀ p', p' < n → ∀ q', q' < p' → v p' = v q' → x p' = x q') ↔ ∀ p p', p < n → p' < n → v p = v p' → x p = x p' := by
  constructor
  · intro h p p' hp hp' e
    rcases Nat.lt_trichotomy p p' with q | q | q
    · exact (h p' hp' p q e.symm).symm
    · rw [q]
    · exact h p hp p' q e
  · intro h p' hp' q' hq e
    exact h p' q' hp' (by omega) e
theorem digN {d t p q : Nat} (hd : d = 2 ∨ d = 3) : nI (dg d t p) = nI (dg d t q) ↔ dg d t p = dg d t q := by
  have h1 := dg_lt (d := d) (by omega) t p
  have h2 := dg_lt (d := d) (by omega) t q
  exact nI_eqs (by omega) (by omega)
theorem ll14 {d j V C : Nat} {cr P : Nat → Nat} {cv : Nat → Nat → Nat} {TC : Nat → Nat} {g : xG} {a : xA} (hB : Bas d g a) (hI : Ins d j V C cr P cv TC g a) {c t p : Nat} (hc : c < C) (ht : t < d ^ P c) (hp : p < P c) {K : Int32 → Int32 → Int32 → Option Int32} :
    ∀ (r q n : Nat), q + r = p → r < n → ((∃ q', q ≤ q' ∧ q' < p ∧ cv c p = cv c q' ∧ dg d t p ≠ dg d t q') ∧ f_X2_isLikeOnLike_14 j g a K n (nI c) (nI t) (nI p) (nI q) = some 0) ∨ ((∀ q', q ≤ q' → q' < p → cv c p = cv c q' → dg d t p = dg d t q') ∧ f_X2_isLikeOnLike_14 j g a K n (nI c) (nI t) (nI p) (nI q) = K (nI c) (nI t) (nI (p + 1)))
  | 0, q, n, hq, hn => by
    obtain ⟨n, rfl⟩ := pos_of hn
    obtain ⟨h1, h2, h3, h4, h5, h6, h7, h8, h9⟩ := hI.2.2.2.2.2 c hc
    refine Or.inr ⟨fun q' h1 h2 => by omega, ?_⟩
    rw [e_X2_isLikeOnLike_14, if_pos (nI_le (by omega) (by omega)), show nI p + 1 = nI (p + 1) from nI_1 p]
  | r + 1, q, n, hq, hn => by
    obtain ⟨n, rfl⟩ := pos_of hn
    have hV := hI.2.1
    have hd := hB.1
    obtain ⟨h1, h2, h3, h4, h5, h6, h7, h8, h9⟩ := hI.2.2.2.2.2 c hc
    have h9' := pw9 hd h8
    have v1 := (h9 p hp).2
    have v2 := (h9 q (by omega)).2
    have ih := ll14 hB hI hc ht hp (K := K) r (q + 1) n (by omega) (by omega)
    rw [e_X2_isLikeOnLike_14, if_neg (nI_ge (by omega) (by omega)), vOn hd hI hc hp, vOn hd hI hc (by omega), digit_B hB (by omega) (by omega), digit_B hB (by omega) (by omega), show nI q + 1 = nI (q + 1) from nI_1 q]
    by_cases e : cv c p = cv c q
    · rw [if_pos (by rw [e])]
      by_cases e2 : dg d t p = dg d t q
      · rw [if_pos (by rw [e2])]
        rcases ih with ⟨⟨q', k1, k2, k3⟩, k4⟩ | ⟨k1, k2⟩
        · exact Or.inl ⟨⟨q', by omega, k2, k3⟩, k4⟩
        · refine Or.inr ⟨fun q' q1 q2 q3 => ?_, k2⟩
          by_cases he : q' = q
          · rw [he]; exact e2
          · exact k1 q' (by omega) q2 q3
      · rw [if_neg (fun h => e2 ((digN hd).mp h))]
        exact Or.inl ⟨⟨q, Nat.le_refl _, by omega, e, e2⟩, rfl⟩
    · rw [if_neg (fun h => e ((nI_eqs (by omega) (by omega)).mp h))]
      rcases ih with ⟨⟨q', k1, k2, k3⟩, k4⟩ | ⟨k1, k2⟩
      · exact Or.inl ⟨⟨q', by omega, k2, k3⟩, k4⟩
      · refine Or.inr ⟨fun q' q1 q2 q3 => ?_, k2⟩
        by_cases he : q' = q
        · exact absurd (he ▸ q3) e
        · exact k1 q' (by omega) q2 q3
theorem ll2 {d j V C : Nat} {cr P : Nat → Nat} {cv : Nat → Nat → Nat} {TC : Nat → Nat} {g : xG} {a : xA} (hB : Bas d g a) (hI : Ins d j V C cr P cv TC g a) {c t : Nat} (hc : c < C) (ht : t < d ^ P c) :
    ∀ (r p n : Nat), p + r = P c → r < n → ∃ b : Bool, f_X2_isLikeOnLike_2 j g a n (nI c) (nI t) (nI p) = some (if b then 1 else 0) ∧ (b = true ↔ ∀ p', p ≤ p' → p' < P c → ∀ q', q' < p' → cv c p' = cv c q' → dg d t p' = dg d t q')
  | 0, p, n, hp, hn => by
    obtain ⟨n, rfl⟩ := pos_of hn
    obtain ⟨h1, h2, h3, h4, h5, h6, h7, h8, h9⟩ := hI.2.2.2.2.2 c hc
    refine ⟨true, ?_, fun _ p' h1 h2 => by omega, fun _ => rfl⟩
    rw [e_X2_isLikeOnLike_2, plC hI hc, if_pos (nI_le (by omega) (by omega))]
    rfl
  | r + 1, p, n, hp, hn => by
    obtain ⟨n, rfl⟩ := pos_of hn
    obtain ⟨h1, h2, h3, h4, h5, h6, h7, h8, h9⟩ := hI.2.2.2.2.2 c hc
    rw [e_X2_isLikeOnLike_2, plC hI hc, if_neg (nI_ge (by omega) (by omega))]
    rcases ll14 hB hI hc ht (p := p) (by omega) (K := f_X2_isLikeOnLike_2 j g a n) p 0 fu (by omega) (fu_gt (by omega)) with ⟨⟨q', k1, k2, k3, k4⟩, k5⟩ | ⟨k1, k2⟩
    · exact ⟨false, k5, fun q => (by cases q), fun q => absurd (q p (Nat.le_refl _) (by omega) q' k2 k3) k4⟩
    · obtain ⟨b, e1, e2⟩ := ll2 hB hI hc ht r (p + 1) n (by omega) (by omega)
      refine ⟨b, k2.trans e1, e2.trans ⟨fun q p' q1 q2 q' q3 q4 => ?_, fun q p' q1 q2 => q p' (by omega) q2⟩⟩
      by_cases he : p' = p
      · rw [he] at q3 q4 ⊢
        exact k1 q' (Nat.zero_le _) q3 q4
      · exact q p' (by omega) q2 q' q3 q4
theorem likeX {d j V C : Nat} {cr P : Nat → Nat} {cv : Nat → Nat → Nat} {TC : Nat → Nat} {g : xG} {a : xA} (hB : Bas d g a) (hI : Ins d j V C cr P cv TC g a) {c t : Nat} (hc : c < C) (ht : t < d ^ P c) :
    ∃ b : Bool, f_X2_isLikeOnLike j g a (nI c) (nI t) = some (if b then 1 else 0) ∧ (b = true ↔ ∀ p p', p < P c → p' < P c → cv c p = cv c p' → dg d t p = dg d t p') := by
  obtain ⟨h1, h2, h3, h4, h5, h6, h7, h8, h9⟩ := hI.2.2.2.2.2 c hc
  obtain ⟨b, e1, e2⟩ := ll2 hB hI hc ht (P c) 0 fu (by omega) (fu_gt (by omega))
  refine ⟨b, e1, e2.trans ?_⟩
  rw [← like_sym]
  exact ⟨fun q p' h => q p' (Nat.zero_le _) h, fun q p' _ h => q p' h⟩
theorem acc_no {acc t : Nat} {Q : Nat → Prop} (h : ∀ i, acc.testBit i = true ↔ i < t ∧ Q i) (hn : ¬ Q t) : ∀ i, acc.testBit i = true ↔ i < t + 1 ∧ Q i := fun i => by
  rw [h i]
  constructor
  · rintro ⟨q1, q2⟩
    exact ⟨by omega, q2⟩
  · rintro ⟨q1, q2⟩
    by_cases he : i = t
    · exact absurd (he ▸ q2) hn
    · exact ⟨by omega, q2⟩
theorem acc_yes {acc t : Nat} {Q : Nat → Prop} (h : ∀ i, acc.testBit i = true ↔ i < t ∧ Q i) (hn : Q t) : ∀ i, (acc ||| 2 ^ t).testBit i = true ↔ i < t + 1 ∧ Q i := fun i => by
  rw [or_bit, h i]
  constructor
  · rintro (⟨q1, q2⟩ | q)
    · exact ⟨by omega, q2⟩
    · exact ⟨by omega, q ▸ hn⟩
  · rintro ⟨q1, q2⟩
    by_cases he : i = t
    · exact Or.inr he.symm
    · exact Or.inl ⟨by omega, q2⟩
theorem sd21 {d j V C : Nat} {cr P : Nat → Nat} {cv : Nat → Nat → Nat} {TC : Nat → Nat} {g : xG} {a : xA} (hB : Bas d g a) (hI : Ins d j V C cr P cv TC g a) {c : Nat} (hc : c < C) :
    ∀ (r t n acc : Nat), t + r = d ^ P c → r < n → acc < 2 ^ (d ^ P c) → (∀ i, acc.testBit i = true ↔ i < t ∧ Stn d (P c) (TC c) (cv c) i) → ∃ s, f_X2_standing_21 j g a n (nI c) (nI (TC c)) (nI acc) (nI t) = some (nI s) ∧ s < 2 ^ (d ^ P c) ∧ ∀ i, s.testBit i = true ↔ Stn d (P c) (TC c) (cv c) i
  | 0, t, n, acc, ht, hn, ha, h => by
    obtain ⟨n, rfl⟩ := pos_of hn
    obtain ⟨h1, h2, h3, h4, h5, h6, h7, h8, h9⟩ := hI.2.2.2.2.2 c hc
    have h9' := pw9 hB.1 h8
    refine ⟨acc, ?_, ha, fun i => (h i).trans ⟨fun q => q.2, fun q => ⟨by have := q.1; omega, q⟩⟩⟩
    rw [e_X2_standing_21, plC hI hc, power_B hB (by omega), if_pos (nI_le (by omega) (by omega))]
  | r + 1, t, n, acc, ht, hn, ha, h => by
    obtain ⟨n, rfl⟩ := pos_of hn
    obtain ⟨h1, h2, h3, h4, h5, h6, h7, h8, h9⟩ := hI.2.2.2.2.2 c hc
    have h9' := pw9 hB.1 h8
    have ht9 := TC_lt hB.1 h6 h8
    rw [e_X2_standing_21, plC hI hc, power_B hB (by omega), if_neg (nI_ge (by omega) (by omega)), isIn_nI (by omega) (by omega), show nI t + 1 = nI (t + 1) from nI_1 t]
    cases hb : (TC c).testBit t with
    | false =>
      rw [if_pos (by decide)]
      exact sd21 hB hI hc r (t + 1) n acc (by omega) (by omega) ha (acc_no h (fun q => by rw [q.2.1] at hb; cases hb))
    | true =>
      obtain ⟨b, e1, e2⟩ := likeX hB hI hc (t := t) (by omega)
      rw [if_neg (by decide), e1, Option.bind_some]
      cases hbb : b with
      | false =>
        rw [if_pos (by decide)]
        exact sd21 hB hI hc r (t + 1) n acc (by omega) (by omega) ha (acc_no h (fun q => by rw [e2.mpr q.2.2] at hbb; cases hbb))
      | true =>
        rw [if_neg (by decide), shl_nI (by omega), nI_or]
        exact sd21 hB hI hc r (t + 1) n (acc ||| 2 ^ t) (by omega) (by omega) (or_lt ha (by omega)) (acc_yes h ⟨by omega, hb, e2.mp hbb⟩)
theorem standX {d j V C : Nat} {cr P : Nat → Nat} {cv : Nat → Nat → Nat} {TC : Nat → Nat} {g : xG} {a : xA} (hB : Bas d g a) (hI : Ins d j V C cr P cv TC g a) {c : Nat} (hc : c < C) : ∃ s, f_X2_standing j g a (nI c) = some (nI s) ∧ s < 2 ^ (d ^ P c) ∧ ∀ i, s.testBit i = true ↔ Stn d (P c) (TC c) (cv c) i := by
  obtain ⟨h1, h2, h3, h4, h5, h6, h7, h8, h9⟩ := hI.2.2.2.2.2 c hc
  have h9' := pw9 hB.1 h8
  obtain ⟨s, e1, e2⟩ := sd21 hB hI hc (d ^ P c) 0 fu 0 (by omega) (fu_gt (by omega)) (Nat.two_pow_pos _) (fun i => by
    rw [Nat.zero_testBit]
    exact ⟨fun q => (by cases q), fun q => by omega⟩)
  refine ⟨s, ?_, e2⟩
  unfold f_X2_standing
  rw [tuC hI hc]
  exact e1
/-! the model -/
theorem cs36 {d V C : Nat} {cr P : Nat → Nat} {cv : Nat → Nat → Nat} {TC : Nat → Nat} {g : xG} {a : xA} (hd : d = 2 ∨ d = 3) (h0 : g 0 = nI d) (hI : InsM d V C cr P cv TC g a) {c t p : Nat} (hc : c < C) (ht : t < d ^ P c) (hp : p < P c) {K : Int32 → Int32 → Int32 → Int32 → Int32 → Option Int32} :
    ∀ (r q n : Nat) (b0 : Bool), q + r = p → r < n → ∃ b : Bool, f_X12_canStand_36 g a K n (nI c) (nI t) (nI (cr c)) (if b0 then 1 else 0) (nI p) (nI q) = K (nI c) (nI t) (nI (cr c)) (if b then 1 else 0) (nI (p + 1)) ∧ (b = true ↔ b0 = true ∧ ∀ q', q ≤ q' → q' < p → cv c p = cv c q' → dg d t p = dg d t q')
  | 0, q, n, b0, hq, hn => by
    obtain ⟨n, rfl⟩ := pos_of hn
    obtain ⟨h1, h2, h3, h4, h5, h6, h7, h8⟩ := hI.2.2.2.2 c hc
    refine ⟨b0, ?_, fun q => ⟨q, fun q' h1 h2 => by omega⟩, fun q => q.1⟩
    rw [e_X12_canStand_36, if_pos (nI_le (by omega) (by omega)), show nI p + 1 = nI (p + 1) from nI_1 p]
  | r + 1, q, n, b0, hq, hn => by
    obtain ⟨n, rfl⟩ := pos_of hn
    have hV := hI.1
    have hC := hI.2.1
    obtain ⟨h1, h2, h3, h4, h5, h6, h7, h8⟩ := hI.2.2.2.2 c hc
    have h9' := pw9 hd h7
    have v1 := h8 p hp
    have v2 := h8 q (by omega)
    have goal : ∀ s0 : Int32, (s0 = if cv c p = cv c q then 1 else 0) → ∃ b : Bool, f_X12_canStand_73 g a K (f_X12_canStand_36 g a K n) (nI c) (nI t) (nI (cr c)) (if b0 then 1 else 0) (nI p) (nI q) s0 = K (nI c) (nI t) (nI (cr c)) (if b then 1 else 0) (nI (p + 1)) ∧ (b = true ↔ b0 = true ∧ ∀ q', q ≤ q' → q' < p → cv c p = cv c q' → dg d t p = dg d t q') := fun s0 hs => by
      have step : ∀ b1 : Bool, (b1 = true ↔ b0 = true ∧ (cv c p = cv c q → dg d t p = dg d t q)) → ∃ b : Bool, f_X12_canStand_36 g a K n (nI c) (nI t) (nI (cr c)) (if b1 then 1 else 0) (nI p) (nI (q + 1)) = K (nI c) (nI t) (nI (cr c)) (if b then 1 else 0) (nI (p + 1)) ∧ (b = true ↔ b0 = true ∧ ∀ q', q ≤ q' → q' < p → cv c p = cv c q' → dg d t p = dg d t q') := fun b1 hb1 => by
        obtain ⟨b, e1, e2⟩ := cs36 hd h0 hI hc ht hp (K := K) r (q + 1) n b1 (by omega) (by omega)
        refine ⟨b, e1, e2.trans ⟨fun q2 => ⟨(hb1.mp q2.1).1, fun q' k1 k2 k3 => ?_⟩, fun q2 => ⟨hb1.mpr ⟨q2.1, fun k => q2.2 q (Nat.le_refl _) (by omega) k⟩, fun q' k1 k2 => q2.2 q' (by omega) k2⟩⟩⟩
        by_cases he : q' = q
        · rw [he] at k3 ⊢
          exact (hb1.mp q2.1).2 k3
        · exact q2.2 q' (by omega) k2 k3
      unfold f_X12_canStand_73
      rw [show nI q + 1 = nI (q + 1) from nI_1 q]
      cases b0 with
      | false =>
        rw [if_pos (by decide)]
        exact step false ⟨fun k => (by cases k), fun k => k.1⟩
      | true =>
        rw [if_neg (by decide)]
        by_cases e : cv c p = cv c q
        · rw [if_pos e] at hs
          rw [hs, if_neg (by decide), onM hd (by omega) h0 (by omega), Option.bind_some, onM hd (by omega) h0 (by omega), Option.bind_some]
          by_cases e2 : dg d t p = dg d t q
          · rw [if_pos (by rw [e2])]
            exact step true ⟨fun _ => ⟨rfl, fun _ => e2⟩, fun _ => rfl⟩
          · rw [if_neg (fun h => e2 ((digN hd).mp h))]
            exact step false ⟨fun k => (by cases k), fun k => absurd (k.2 e) e2⟩
        · rw [if_neg e] at hs
          rw [hs, if_pos rfl]
          exact step true ⟨fun _ => ⟨rfl, fun k => absurd k e⟩, fun _ => rfl⟩
    rw [e_X12_canStand_36, if_neg (nI_ge (by omega) (by omega))]
    simp only [z3, pk_mul, nI_add]
    rw [ck_t (inB_t (by omega) (by decide)), ck_t (inB_t (by omega) (by decide)), nI_clamp (by omega), nI_clamp (by omega), v1.1, v2.1]
    by_cases e : cv c p = cv c q
    · rw [if_pos (by rw [e])]
      exact goal 1 (by rw [if_pos e])
    · rw [if_neg (fun h => e ((nI_eqs (by omega) (by omega)).mp h))]
      exact goal 0 (by rw [if_neg e])
theorem cs22 {d V C : Nat} {cr P : Nat → Nat} {cv : Nat → Nat → Nat} {TC : Nat → Nat} {g : xG} {a : xA} (hd : d = 2 ∨ d = 3) (h0 : g 0 = nI d) (hI : InsM d V C cr P cv TC g a) {c t : Nat} (hc : c < C) (ht : t < d ^ P c) :
    ∀ (r p n : Nat) (b0 : Bool), p + r = P c → r < n → ∃ b : Bool, f_X12_canStand_22 g a n (nI c) (nI t) (nI (cr c)) (if b0 then 1 else 0) (nI p) = some (if b then 1 else 0) ∧ (b = true ↔ b0 = true ∧ ∀ p', p ≤ p' → p' < P c → ∀ q', q' < p' → cv c p' = cv c q' → dg d t p' = dg d t q')
  | 0, p, n, b0, hp, hn => by
    obtain ⟨n, rfl⟩ := pos_of hn
    obtain ⟨h1, h2, h3, h4, h5, h6, h7, h8⟩ := hI.2.2.2.2 c hc
    refine ⟨b0, ?_, fun q => ⟨q, fun p' h1 h2 => by omega⟩, fun q => q.1⟩
    rw [e_X12_canStand_22, ck_t (inB_t (by omega) (by decide)), nI_clamp (by omega), h3, if_pos (nI_le (by omega) (by omega)), ck_t]
    cases b0 <;> decide
  | r + 1, p, n, b0, hp, hn => by
    obtain ⟨n, rfl⟩ := pos_of hn
    obtain ⟨h1, h2, h3, h4, h5, h6, h7, h8⟩ := hI.2.2.2.2 c hc
    obtain ⟨b1, e1, e2⟩ := cs36 hd h0 hI hc ht (p := p) (by omega) (K := f_X12_canStand_22 g a n) p 0 fu b0 (by omega) (fu_gt (by omega))
    obtain ⟨b, e3, e4⟩ := cs22 hd h0 hI hc ht r (p + 1) n b1 (by omega) (by omega)
    refine ⟨b, ?_, e4.trans ⟨fun q => ⟨(e2.mp q.1).1, fun p' k1 k2 q' k3 k4 => ?_⟩, fun q => ⟨e2.mpr ⟨q.1, fun q' _ k3 k4 => q.2 p (Nat.le_refl _) (by omega) q' k3 k4⟩, fun p' k1 k2 => q.2 p' (by omega) k2⟩⟩⟩
    · rw [e_X12_canStand_22, ck_t (inB_t (by omega) (by decide)), nI_clamp (by omega), h3, if_neg (nI_ge (by omega) (by omega))]
      exact e1.trans e3
    · by_cases he : p' = p
      · rw [he] at k3 k4 ⊢
        exact (e2.mp q.1).2 q' (Nat.zero_le _) k3 k4
      · exact q.2 p' (by omega) k2 q' k3 k4
theorem standM {d V C : Nat} {cr P : Nat → Nat} {cv : Nat → Nat → Nat} {TC : Nat → Nat} {g : xG} {a : xA} (hd : d = 2 ∨ d = 3) (h0 : g 0 = nI d) (hI : InsM d V C cr P cv TC g a) {c t : Nat} (hc : c < C) (ht : t < d ^ P c) :
    ∃ b : Bool, f_X12_canStand g a (nI c) (nI t) = some (if b then 1 else 0) ∧ (b = true ↔ Stn d (P c) (TC c) (cv c) t) := by
  have hC := hI.2.1
  obtain ⟨h1, h2, h3, h4, h5, h6, h7, h8⟩ := hI.2.2.2.2 c hc
  have h9' := pw9 hd h7
  have ht9 := TC_lt hd h5 h7
  obtain ⟨b, e1, e2⟩ := cs22 hd h0 hI hc ht (P c) 0 fu ((TC c).testBit t) (by omega) (fu_gt (by omega))
  refine ⟨b, ?_, e2.trans ?_⟩
  · unfold f_X12_canStand
    rw [ck_t (inB_t (by omega) (by decide)), nI_clamp (by omega), h2, ck_t (inB_t (by omega) (by decide)), nI_clamp (by omega), h4, isInM (by omega) (by omega)]
    exact e1
  · unfold Stn
    rw [← like_sym]
    exact ⟨fun q => ⟨ht, q.1, fun p' k => q.2 p' (Nat.zero_le _) k⟩, fun q => ⟨q.2.1, fun p' _ k => q.2.2 p' k⟩⟩
