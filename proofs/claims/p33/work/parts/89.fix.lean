/-! What is left when all that cannot be is taken away: one set, whichever way it is found. -/
def MX (Init : Nat → Nat → Prop) (Sup : (Nat → Nat → Prop) → Nat → Nat → Prop) (k u : Nat) : Prop := ∃ S : Nat → Nat → Prop, (∀ k u, S k u → Init k u ∧ Sup S k u) ∧ S k u
def Mono (Sup : (Nat → Nat → Prop) → Nat → Nat → Prop) : Prop := ∀ S S' : Nat → Nat → Prop, (∀ k u, S k u → S' k u) → ∀ k u, Sup S k u → Sup S' k u
theorem MX_sup {Init : Nat → Nat → Prop} {Sup : (Nat → Nat → Prop) → Nat → Nat → Prop} (hm : Mono Sup) {k u : Nat} (h : MX Init Sup k u) : Init k u ∧ Sup (MX Init Sup) k u := by
  obtain ⟨S, h1, h2⟩ := h
  obtain ⟨q1, q2⟩ := h1 k u h2
  exact ⟨q1, hm S _ (fun k u hs => ⟨S, h1, hs⟩) k u q2⟩
/-- what cells hold -/
def hs (N : Nat) (A : Nat → Nat) (k u : Nat) : Prop := k < N ∧ (A k).testBit u = true
theorem MX_eq {Init : Nat → Nat → Prop} {Sup : (Nat → Nat → Prop) → Nat → Nat → Prop} {N : Nat} {A : Nat → Nat} (h1 : ∀ k u, hs N A k u → Init k u ∧ Sup (hs N A) k u) (h2 : ∀ k u, MX Init Sup k u → hs N A k u) (k u : Nat) : hs N A k u ↔ MX Init Sup k u :=
  ⟨fun h => ⟨hs N A, h1, h⟩, h2 k u⟩
theorem MX_same {Init : Nat → Nat → Prop} {Sup : (Nat → Nat → Prop) → Nat → Nat → Prop} {N : Nat} {A A' : Nat → Nat} (h1 : ∀ k u, hs N A k u ↔ MX Init Sup k u) (h2 : ∀ k u, hs N A' k u ↔ MX Init Sup k u) {k : Nat} (hk : k < N) : A k = A' k :=
  set_ext fun i => ⟨fun q => ((h2 k i).mpr ((h1 k i).mp ⟨hk, q⟩)).2, fun q => ((h1 k i).mpr ((h2 k i).mp ⟨hk, q⟩)).2⟩
/-- one after another, none is taken that is left in the end -/
theorem MX_keep {Init : Nat → Nat → Prop} {Sup : (Nat → Nat → Prop) → Nat → Nat → Prop} (hm : Mono Sup) {N : Nat} {A A' : Nat → Nat} (h : ∀ k u, MX Init Sup k u → hs N A k u) (h2 : ∀ k u, hs N A k u → Sup (hs N A) k u → hs N A' k u) : ∀ k u, MX Init Sup k u → hs N A' k u := fun k u q => h2 k u (h k u q) (hm _ _ h k u (MX_sup hm q).2)
/-- how much is left -/
def ms (B : Nat) (A : Nat → Nat) : Nat → Nat
  | 0 => 0
  | n + 1 => ms B A n + pc (A n) B
theorem ms_cong {B : Nat} {A A' : Nat → Nat} : ∀ n, (∀ k, k < n → A k = A' k) → ms B A n = ms B A' n
  | 0, _ => rfl
  | n + 1, h => by
    unfold ms
    rw [ms_cong n (fun k hk => h k (by omega)), h n (by omega)]
theorem ms_le {B : Nat} {A : Nat → Nat} : ∀ n, ms B A n ≤ n * B
  | 0 => by simp [ms]
  | n + 1 => by
    have h := ms_le (B := B) (A := A) n
    have h2 := pc_le (A n) B
    unfold ms
    rw [Nat.add_mul, Nat.one_mul]
    omega
/-- one cell loses something -/
theorem ms_lt {B : Nat} {A : Nat → Nat} {k x i : Nat} (hs : ∀ i, x.testBit i = true → (A k).testBit i = true) (h1 : x.testBit i = false) (h2 : (A k).testBit i = true) (hi : i < B) : ∀ n, k < n → ms B (fun j => if j = k then x else A j) n < ms B A n
  | 0, h => by omega
  | n + 1, h => by
    show ms B (fun j => if j = k then x else A j) n + pc (if n = k then x else A n) B < ms B A n + pc (A n) B
    by_cases he : n = k
    · have e1 : ms B (fun j => if j = k then x else A j) n = ms B A n := ms_cong n (fun j hj => if_neg (by omega))
      rw [e1, if_pos he, he]
      have := pc_lt hs h1 h2 B hi
      omega
    · have := ms_lt hs h1 h2 hi n (by omega)
      rw [if_neg he]
      omega
theorem ms_same {B : Nat} {A : Nat → Nat} {k x : Nat} (h : x = A k) (n : Nat) : ms B (fun j => if j = k then x else A j) n = ms B A n := ms_cong n (fun j _ => by
  show (if j = k then x else A j) = A j
  by_cases he : j = k
  · rw [if_pos he, h, he]
  · rw [if_neg he])
/-- a set is less than another, and so lacks something -/
theorem sub_ne {x y : Nat} (h : ∀ i, x.testBit i = true → y.testBit i = true) (hne : x ≠ y) : ∃ i, x.testBit i = false ∧ y.testBit i = true := by
  refine Classical.byContradiction fun hn => hne (set_ext fun i => ⟨h i, fun q => ?_⟩)
  cases hx : x.testBit i
  · exact absurd ⟨i, hx, q⟩ hn
  · rfl
def SupL (d C : Nat) (P : Nat → Nat) (cv : Nat → Nat → Nat) (TC : Nat → Nat) (S : Nat → Nat → Prop) (v u : Nat) : Prop := ∀ c, c < C → (∃ p, p < P c ∧ cv c p = v) → ∃ t, Stn d (P c) (TC c) (cv c) t ∧ ∀ p, p < P c → (cv c p = v → dg d t p = u) ∧ (cv c p ≠ v → S (cv c p) (dg d t p))
theorem SupL_mono {d C : Nat} {P : Nat → Nat} {cv : Nat → Nat → Nat} {TC : Nat → Nat} : Mono (SupL d C P cv TC) := by
  intro S S' h v u hs c hc hp
  obtain ⟨t, h1, h2⟩ := hs c hc hp
  exact ⟨t, h1, fun p hp => ⟨(h2 p hp).1, fun q => h _ _ ((h2 p hp).2 q)⟩⟩
def InitL (d V : Nat) (v u : Nat) : Prop := v < V ∧ u < d
/-! the class -/
theorem lf2 {d j V C : Nat} {cr P : Nat → Nat} {cv : Nat → Nat → Nat} {TC A : Nat → Nat} {g : xG} {a : xA} (hB : Bas d g a) (hI : Ins d j V C cr P cv TC g a) (hA : ∀ v, v < 6 → a (29 + 7 * j) v = nI (A v) ∧ A v < 8) {c t : Nat} (hc : c < C) (ht : t < d ^ P c) :
    ∀ (r p n : Nat), p + r = P c → r < n → ∃ b : Bool, f_X2_isLeft_2 j g a n (nI c) (nI t) (nI p) = some (if b then 1 else 0) ∧ (b = true ↔ ∀ p', p ≤ p' → p' < P c → (A (cv c p')).testBit (dg d t p') = true)
  | 0, p, n, hp, hn => by
    obtain ⟨n, rfl⟩ := pos_of hn
    obtain ⟨h1, h2, h3, h4, h5, h6, h7, h8, h9⟩ := hI.2.2.2.2.2 c hc
    refine ⟨true, ?_, fun _ p' h1 h2 => by omega, fun _ => rfl⟩
    rw [e_X2_isLeft_2, plC hI hc, if_pos (nI_le (by omega) (by omega))]
    rfl
  | r + 1, p, n, hp, hn => by
    obtain ⟨n, rfl⟩ := pos_of hn
    have hV := hI.2.1
    have hd := hB.1
    obtain ⟨h1, h2, h3, h4, h5, h6, h7, h8, h9⟩ := hI.2.2.2.2.2 c hc
    have h9' := pw9 hB.1 h8
    have v1 := (h9 p (by omega)).2
    obtain ⟨k1, k2⟩ := hA (cv c p) (by omega)
    have hdg := dg_lt (d := d) (by omega) t p
    obtain ⟨b, e1, e2⟩ := lf2 hB hI hA hc ht r (p + 1) n (by omega) (by omega)
    rw [e_X2_isLeft_2, plC hI hc, if_neg (nI_ge (by omega) (by omega)), vOn hd hI hc (by omega), at_in (by omega) (by decide), k1, digit_B hB (by omega) (by omega), isIn_nI (by omega) (by omega), show nI p + 1 = nI (p + 1) from nI_1 p]
    cases hb : (A (cv c p)).testBit (dg d t p) with
    | false =>
      rw [if_pos (by decide)]
      exact ⟨false, rfl, fun q => (by cases q), fun q => by rw [q p (Nat.le_refl _) (by omega)] at hb; cases hb⟩
    | true =>
      rw [if_neg (by decide)]
      refine ⟨b, e1, e2.trans ⟨fun q p' q1 q2 => ?_, fun q p' q1 q2 => q p' (by omega) q2⟩⟩
      by_cases he : p' = p
      · rw [he]; exact hb
      · exact q p' (by omega) q2
theorem su12 {d j V C : Nat} {cr P : Nat → Nat} {cv : Nat → Nat → Nat} {TC A : Nat → Nat} {g : xG} {a : xA} (hB : Bas d g a) (hI : Ins d j V C cr P cv TC g a) (hA : ∀ v, v < 6 → a (29 + 7 * j) v = nI (A v) ∧ A v < 8) {c p s : Nat} (hc : c < C) (hp : p < P c) (hs1 : s < 2 ^ (d ^ P c)) (hs2 : ∀ i, s.testBit i = true ↔ Stn d (P c) (TC c) (cv c) i) :
    ∀ (r t n acc : Nat), t + r = d ^ P c → r < n → acc < 8 → (∀ u, acc.testBit u = true ↔ ∃ t', t' < t ∧ Stn d (P c) (TC c) (cv c) t' ∧ (∀ p', p' < P c → (A (cv c p')).testBit (dg d t' p') = true) ∧ dg d t' p = u) → ∃ x, f_X2_supported_12 j g a n (nI c) (nI p) (nI s) (nI acc) (nI t) = some (nI x) ∧ x < 8 ∧ ∀ u, x.testBit u = true ↔ ∃ t', Stn d (P c) (TC c) (cv c) t' ∧ (∀ p', p' < P c → (A (cv c p')).testBit (dg d t' p') = true) ∧ dg d t' p = u
  | 0, t, n, acc, ht, hn, ha, h => by
    obtain ⟨n, rfl⟩ := pos_of hn
    obtain ⟨h1, h2, h3, h4, h5, h6, h7, h8, h9⟩ := hI.2.2.2.2.2 c hc
    have h9' := pw9 hB.1 h8
    refine ⟨acc, ?_, ha, fun u => (h u).trans ⟨fun ⟨t', _, q⟩ => ⟨t', q⟩, fun ⟨t', q⟩ => ⟨t', by have := q.1.1; omega, q⟩⟩⟩
    rw [e_X2_supported_12, plC hI hc, power_B hB (by omega), if_pos (nI_le (by omega) (by omega))]
  | r + 1, t, n, acc, ht, hn, ha, h => by
    obtain ⟨n, rfl⟩ := pos_of hn
    have hd := hB.1
    obtain ⟨h1, h2, h3, h4, h5, h6, h7, h8, h9⟩ := hI.2.2.2.2.2 c hc
    have h9' := pw9 hB.1 h8
    have ht9 := TC_lt hB.1 hs1 h8
    have no : ¬ (Stn d (P c) (TC c) (cv c) t ∧ ∀ p', p' < P c → (A (cv c p')).testBit (dg d t p') = true) → ∀ u, acc.testBit u = true ↔ ∃ t', t' < t + 1 ∧ Stn d (P c) (TC c) (cv c) t' ∧ (∀ p', p' < P c → (A (cv c p')).testBit (dg d t' p') = true) ∧ dg d t' p = u := fun hno u => by
      rw [h u]
      constructor
      · rintro ⟨t', q1, q2⟩
        exact ⟨t', by omega, q2⟩
      · rintro ⟨t', q1, q2, q3, q4⟩
        by_cases he : t' = t
        · exact absurd ⟨he ▸ q2, he ▸ q3⟩ hno
        · exact ⟨t', by omega, q2, q3, q4⟩
    rw [e_X2_supported_12, plC hI hc, power_B hB (by omega), if_neg (nI_ge (by omega) (by omega)), isIn_nI (by omega) (by omega), show nI t + 1 = nI (t + 1) from nI_1 t]
    cases hb : s.testBit t with
    | false =>
      rw [if_pos (by decide)]
      exact su12 hB hI hA hc hp hs1 hs2 r (t + 1) n acc (by omega) (by omega) ha (no (fun q => by rw [(hs2 t).mpr q.1] at hb; cases hb))
    | true =>
      obtain ⟨b, e1, e2⟩ := lf2 hB hI hA hc (t := t) (by omega) (P c) 0 fu (by omega) (fu_gt (by omega))
      have e1' : f_X2_isLeft j g a (nI c) (nI t) = some (if b = true then 1 else 0) := e1
      rw [if_neg (by decide), e1', Option.bind_some]
      cases hbb : b with
      | false =>
        rw [if_pos (by decide)]
        exact su12 hB hI hA hc hp hs1 hs2 r (t + 1) n acc (by omega) (by omega) ha (no (fun q => by rw [e2.mpr (fun p' _ k => q.2 p' k)] at hbb; cases hbb))
      | true =>
        have hdg := dg_lt (d := d) (by omega) t p
        rw [if_neg (by decide), digit_B hB (by omega) (by omega), shl_nI (by omega), nI_or]
        refine su12 hB hI hA hc hp hs1 hs2 r (t + 1) n (acc ||| 2 ^ dg d t p) (by omega) (by omega) (or_lt (N := 3) ha (by omega)) (fun u => ?_)
        rw [or_bit, h u]
        constructor
        · rintro (⟨t', q1, q2⟩ | q)
          · exact ⟨t', by omega, q2⟩
          · exact ⟨t, by omega, (hs2 t).mp hb, fun p' k => e2.mp hbb p' (Nat.zero_le _) k, q⟩
        · rintro ⟨t', q1, q2, q3, q4⟩
          by_cases he : t' = t
          · exact Or.inr (by rw [← q4, he])
          · exact Or.inl ⟨t', by omega, q2, q3, q4⟩
theorem suppX {d j V C : Nat} {cr P : Nat → Nat} {cv : Nat → Nat → Nat} {TC A : Nat → Nat} {g : xG} {a : xA} (hB : Bas d g a) (hI : Ins d j V C cr P cv TC g a) (hA : ∀ v, v < 6 → a (29 + 7 * j) v = nI (A v) ∧ A v < 8) {c p : Nat} (hc : c < C) (hp : p < P c) :
    ∃ x, f_X2_supported j g a (nI c) (nI p) = some (nI x) ∧ x < 8 ∧ ∀ u, x.testBit u = true ↔ ∃ t', Stn d (P c) (TC c) (cv c) t' ∧ (∀ p', p' < P c → (A (cv c p')).testBit (dg d t' p') = true) ∧ dg d t' p = u := by
  obtain ⟨h1, h2, h3, h4, h5, h6, h7, h8, h9⟩ := hI.2.2.2.2.2 c hc
  have h9' := pw9 hB.1 h8
  obtain ⟨s, s1, s2, s3⟩ := standX hB hI hc
  obtain ⟨x, e1, e2⟩ := su12 hB hI hA hc hp s2 s3 (d ^ P c) 0 fu 0 (by omega) (fu_gt (by omega)) (by decide) (fun u => by
    rw [Nat.zero_testBit]
    exact ⟨fun q => (by cases q), fun ⟨t', q, _⟩ => by omega⟩)
  refine ⟨x, ?_, e2⟩
  unfold f_X2_supported
  rw [s1, Option.bind_some]
  exact e1
