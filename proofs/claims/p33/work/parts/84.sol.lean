/-! How many there are, the solutions, both sides. -/
/-- how many below n -/
noncomputable def cb (P : Nat → Prop) : Nat → Nat
  | 0 => 0
  | n + 1 => cb P n + @ite _ (P n) (Classical.propDecidable _) 1 0
theorem cb_1 {P : Nat → Prop} {n : Nat} (h : P n) : cb P (n + 1) = cb P n + 1 := by
  show cb P n + @ite _ (P n) (Classical.propDecidable _) 1 0 = _
  rw [if_pos h]
theorem cb_0 {P : Nat → Prop} {n : Nat} (h : ¬ P n) : cb P (n + 1) = cb P n := by
  show cb P n + @ite _ (P n) (Classical.propDecidable _) 1 0 = _
  rw [if_neg h]
  rfl
theorem cb_le {P : Nat → Prop} : ∀ n, cb P n ≤ n
  | 0 => Nat.le_refl _
  | n + 1 => by
    have h := cb_le (P := P) n
    by_cases hp : P n
    · rw [cb_1 hp]; omega
    · rw [cb_0 hp]; omega
theorem cb_cong {P Q : Nat → Prop} : ∀ n, (∀ k, k < n → (P k ↔ Q k)) → cb P n = cb Q n
  | 0, _ => rfl
  | n + 1, h => by
    have h1 := cb_cong n (fun k hk => h k (by omega))
    by_cases hp : P n
    · rw [cb_1 hp, cb_1 ((h n (by omega)).mp hp), h1]
    · rw [cb_0 hp, cb_0 (fun q => hp ((h n (by omega)).mpr q)), h1]
theorem cb_add {P : Nat → Prop} (m : Nat) : ∀ k, cb P (m + k) = cb P m + cb (fun c => P (m + c)) k
  | 0 => rfl
  | k + 1 => by
    have h := cb_add (P := P) m k
    by_cases hp : P (m + k)
    · rw [cb_1 (P := fun c => P (m + c)) hp, show m + (k + 1) = (m + k) + 1 by omega, cb_1 hp, h]
      omega
    · rw [cb_0 (P := fun c => P (m + c)) hp, show m + (k + 1) = (m + k) + 1 by omega, cb_0 hp, h]
theorem cb_no {P : Nat → Prop} : ∀ n, (∀ k, k < n → ¬ P k) → cb P n = 0
  | 0, _ => rfl
  | n + 1, h => by rw [cb_0 (h n (by omega)), cb_no n (fun k hk => h k (by omega))]
theorem cb_of0 {P : Nat → Prop} : ∀ n, cb P n = 0 → ∀ k, k < n → ¬ P k
  | 0, _, k, hk => by omega
  | n + 1, h, k, hk => by
    by_cases hp : P n
    · rw [cb_1 hp] at h; omega
    · rw [cb_0 hp] at h
      by_cases he : k = n
      · rw [he]; exact hp
      · exact cb_of0 n h k (by omega)
theorem cb_ex {P : Nat → Prop} {n : Nat} (h : 0 < cb P n) : ∃ k, k < n ∧ P k := by
  refine Classical.byContradiction fun hn => ?_
  have : cb P n = 0 := cb_no n (fun k hk hp => hn ⟨k, hk, hp⟩)
  omega
theorem cb_pos {P : Nat → Prop} {n k : Nat} (hk : k < n) (h : P k) : 0 < cb P n := by
  rcases Nat.eq_zero_or_pos (cb P n) with q | q
  · exact absurd h (cb_of0 n q k hk)
  · exact q
theorem cb_mono {P : Nat → Prop} {m n : Nat} (h : m ≤ n) : cb P m ≤ cb P n := by
  obtain ⟨k, rfl⟩ : ∃ k, n = m + k := ⟨n - m, by omega⟩
  rw [cb_add]
  omega
/-- the first, if there is one -/
theorem cb_first {P : Nat → Prop} {n : Nat} (h : 0 < cb P n) : ∃ k, k < n ∧ P k ∧ ∀ j, j < k → ¬ P j := by
  obtain ⟨k, hk, hp⟩ := cb_ex h
  obtain ⟨q, h1, h2⟩ := pk_least P ⟨k, hp⟩
  refine ⟨q, ?_, h1, h2⟩
  rcases Nat.lt_or_ge k q with h3 | h3
  · exact absurd hp (h2 k h3)
  · omega
/-- a constraint holds -/
def hld (d n T : Nat) (v y : Nat → Nat) : Bool := T.testBit (nm d (fun p => y (v p)) n)
theorem hld_cong {d n T : Nat} {v y y' : Nat → Nat} (h : ∀ p, p < n → y (v p) = y' (v p)) : hld d n T v y = hld d n T v y' := by
  unfold hld
  rw [nm_cong h]
theorem lowv_min {f : Nat → Nat} : ∀ {n p : Nat}, p < n → lowv f n ≤ f p
  | 0, p, h => by omega
  | n + 1, p, h => by
    unfold lowv
    by_cases he : p = n
    · subst he
      split <;> omega
    · have := lowv_min (f := f) (n := n) (p := p) (by omega)
      split <;> omega
theorem vOn {d j V C : Nat} {cr P : Nat → Nat} {cv : Nat → Nat → Nat} {TC : Nat → Nat} {g : xG} {a : xA} (hd : d = 2 ∨ d = 3) (hI : Ins d j V C cr P cv TC g a) {c p : Nat} (hc : c < C) (hp : p < P c) : t_X2_variableOn j g a (nI c) (nI p) = nI (cv c p) := by
  obtain ⟨_, _, hC, _, _, h⟩ := hI
  obtain ⟨_, _, _, _, _, _, _, h8, h9⟩ := h c hc
  unfold t_X2_variableOn
  simp only [z3, pk_mul, nI_add]
  rw [at_in (by omega) (by decide), (h9 p hp).1]
theorem plC {d j V C : Nat} {cr P : Nat → Nat} {cv : Nat → Nat → Nat} {TC : Nat → Nat} {g : xG} {a : xA} (hI : Ins d j V C cr P cv TC g a) {c : Nat} (hc : c < C) : t_X2_placesOf j g a (nI c) = nI (P c) := by
  obtain ⟨_, _, hC, _, _, h⟩ := hI
  obtain ⟨_, _, h3, _⟩ := h c hc
  unfold t_X2_placesOf
  rw [at_in (by omega) (by decide), h3]
theorem tuC {d j V C : Nat} {cr P : Nat → Nat} {cv : Nat → Nat → Nat} {TC : Nat → Nat} {g : xG} {a : xA} (hI : Ins d j V C cr P cv TC g a) {c : Nat} (hc : c < C) : t_X10_tuplesOf g a (atF 16 (a (25 + 7 * j)) (nI c)) = nI (TC c) := by
  obtain ⟨_, _, hC, _, _, h⟩ := hI
  obtain ⟨h1, h2, _, _, h5, _⟩ := h c hc
  rw [at_in (by omega) (by decide), h2, tuOf h1 h5]
theorem TC_lt {d n T : Nat} (hd : d = 2 ∨ d = 3) (h : T < 2 ^ (d ^ n)) (hn : n + d ≤ 5) : T < 2 ^ 9 := Nat.lt_of_lt_of_le h (Nat.pow_le_pow_right (by decide) (pw9 hd hn))
theorem hl_loop {d j V C : Nat} {cr P : Nat → Nat} {cv : Nat → Nat → Nat} {TC : Nat → Nat} {g : xG} {a : xA} (hd : d = 2 ∨ d = 3) (h0 : g 0 = nI d) (hI : Ins d j V C cr P cv TC g a) {c : Nat} (hc : c < C) {y : Nat → Nat} (hy : ∀ p, p < P c → a (30 + 7 * j) (cv c p) = nI (y (cv c p)) ∧ y (cv c p) < d) :
    ∀ (p r n : Nat), p + r = P c → p < n → f_X2_holds_10 j g a n (nI c) (nI (nm d (fun q => y (cv c (p + q))) r)) (nI p + -nI 1) = some (if hld d (P c) (TC c) (cv c) y then 1 else 0)
  | 0, r, n, hp, hn => by
    obtain ⟨n, rfl⟩ := pos_of hn
    have e : r = P c := by omega
    subst e
    obtain ⟨_, _, _, _, _, h⟩ := id hI
    obtain ⟨h1, h2, h3, h4, h5, h6, h7, h8, h9⟩ := h c hc
    have hl := nm_lt (d := d) (f := fun q => y (cv c q)) (P c) (fun p hp => (hy p hp).2)
    have hp9 := pw9 hd h8
    have ht9 := TC_lt hd h6 h8
    rw [e_X2_holds_10, if_pos (show nI 0 + -nI 1 < 0 from m1z), hn_0 d (fun q => y (cv c q)), tuC hI hc, isIn_nI (by omega) (by omega)]
    unfold hld
    rw [ck_t]
    split <;> decide
  | p + 1, r, n, hp, hn => by
    obtain ⟨n, rfl⟩ := pos_of hn
    obtain ⟨_, hV, _, _, _, h⟩ := id hI
    obtain ⟨h1, h2, h3, h4, h5, h6, h7, h8, h9⟩ := h c hc
    have hpy := hy p (by omega)
    have hpv := (h9 p (by omega)).2
    rw [e_X2_holds_10, m1p, if_neg (nI_pos (by omega)), vOn hd hI hc (by omega), at_in (by omega) (by decide), hpy.1, h0]
    simp only [z0, z1, z2, z3, z4, z5, z6, z7, z8, z9, z16, z27, z31, z32, z36, z60, nI_add, pk_mul, m1s]
    rw [hn_sh d (fun q => y (cv c q))]
    exact hl_loop hd h0 hI hc hy p (r + 1) n (by omega) (by omega)
theorem holdsX {d j V C : Nat} {cr P : Nat → Nat} {cv : Nat → Nat → Nat} {TC : Nat → Nat} {g : xG} {a : xA} (hd : d = 2 ∨ d = 3) (h0 : g 0 = nI d) (hI : Ins d j V C cr P cv TC g a) {c : Nat} (hc : c < C) {y : Nat → Nat} (hy : ∀ p, p < P c → a (30 + 7 * j) (cv c p) = nI (y (cv c p)) ∧ y (cv c p) < d) :
    f_X2_holds j g a (nI c) = some (if hld d (P c) (TC c) (cv c) y then 1 else 0) := by
  obtain ⟨_, _, _, _, _, h⟩ := id hI
  obtain ⟨h1, h2, h3, h4, h5, h6, h7, h8, h9⟩ := h c hc
  have := hl_loop hd h0 hI hc hy (P c) 0 fu (by omega) (fu_gt (by omega))
  unfold f_X2_holds
  rw [plC hI hc]
  simp only [z0, z1, m1s]
  exact this
theorem bit01 (b : Bool) : ((if b then (1 : Int32) else 0) = 0) ↔ b = false := by cases b <;> decide
theorem hf_loop {d j V C k : Nat} {cr P : Nat → Nat} {cv : Nat → Nat → Nat} {TC : Nat → Nat} {g : xG} {a : xA} (hd : d = 2 ∨ d = 3) (h0 : g 0 = nI d) (hI : Ins d j V C cr P cv TC g a) (hk : k < 100) {y : Nat → Nat} (hy : ∀ v, k ≤ v → v < V → a (30 + 7 * j) v = nI (y v) ∧ y v < d) :
    ∀ (r c n : Nat), c + r = C → r < n → ∃ b : Bool, f_X2_holdsFrom_2 j g a n (nI k) (nI c) = some (if b then 1 else 0) ∧ (b = true ↔ ∀ c', c ≤ c' → c' < C → lowv (cv c') (P c') = k → hld d (P c') (TC c') (cv c') y = true)
  | 0, c, n, hp, hn => by
    obtain ⟨n, rfl⟩ := pos_of hn
    obtain ⟨_, _, hC, _, hg, h⟩ := id hI
    refine ⟨true, ?_, fun _ c' h1 h2 => by omega, fun _ => rfl⟩
    rw [e_X2_holdsFrom_2, hg, if_pos (nI_le (by omega) (by omega))]
    rfl
  | r + 1, c, n, hp, hn => by
    obtain ⟨n, rfl⟩ := pos_of hn
    obtain ⟨_, _, hC, _, hg, h⟩ := id hI
    obtain ⟨h1, h2, h3, h4, h5, h6, h7, h8, h9⟩ := h c (by omega)
    obtain ⟨b, e1, e2⟩ := hf_loop hd h0 hI hk hy r (c + 1) n (by omega) (by omega)
    have hl6 := lowv_le (cv c) (P c)
    rw [e_X2_holdsFrom_2, hg, if_neg (nI_ge (by omega) (by omega)), at_in (by omega) (by decide), h4, show nI c + 1 = nI (c + 1) from nI_1 c]
    by_cases hlow : lowv (cv c) (P c) = k
    · rw [if_pos (by rw [hlow]), holdsX hd h0 hI (by omega) (fun p hp => hy _ (by have := lowv_min (f := cv c) hp; omega) (h9 p hp).2), Option.bind_some]
      by_cases hh : hld d (P c) (TC c) (cv c) y = true
      · rw [if_neg (by rw [bit01, hh]; decide)]
        refine ⟨b, e1, e2.trans ⟨fun q c' q1 q2 q3 => ?_, fun q c' q1 q2 q3 => q c' (by omega) q2 q3⟩⟩
        by_cases he : c' = c
        · rw [he]; exact hh
        · exact q c' (by omega) q2 q3
      · have hh' : hld d (P c) (TC c) (cv c) y = false := by
          cases hb : hld d (P c) (TC c) (cv c) y
          · rfl
          · exact absurd hb hh
        rw [if_pos (by rw [bit01, hh'])]
        exact ⟨false, rfl, fun q => (by cases q), fun q => absurd (q c (Nat.le_refl _) (by omega) hlow) hh⟩
    · rw [if_neg (fun e => hlow ((nI_eqs (by omega) (by omega)).mp e))]
      refine ⟨b, e1, e2.trans ⟨fun q c' q1 q2 q3 => ?_, fun q c' q1 q2 q3 => q c' (by omega) q2 q3⟩⟩
      by_cases he : c' = c
      · exact absurd (he ▸ q3) hlow
      · exact q c' (by omega) q2 q3
def GS (d C : Nat) (P : Nat → Nat) (cv : Nat → Nat → Nat) (TC al : Nat → Nat) (k : Nat) (z : Nat → Nat) : Prop := (∀ i, i < k → (al i).testBit (z i) = true) ∧ ∀ c, c < C → lowv (cv c) (P c) < k → hld d (P c) (TC c) (cv c) z = true
def mix (d k : Nat) (y : Nat → Nat) (c : Nat) : Nat → Nat := fun i => if i < k then dg d c i else y i
theorem dg_lo {d k c u i : Nat} (hd : 0 < d) (hi : i < k) : dg d (d ^ k * u + c) i = dg d c i := by
  unfold dg
  have e : d ^ k * u + c = d ^ i * (d * (d ^ (k - i - 1) * u)) + c := by
    have : d ^ k = d ^ i * (d * d ^ (k - i - 1)) := by
      rw [← Nat.pow_succ', ← Nat.pow_add]; congr 1; omega
    rw [this, Nat.mul_assoc, Nat.mul_assoc]
  rw [e, Nat.mul_add_div (Nat.pow_pos hd), Nat.mul_add_mod]
theorem dg_hi {d k c u : Nat} (hd : 0 < d) (hc : c < d ^ k) (hu : u < d) : dg d (d ^ k * u + c) k = u := by
  unfold dg
  rw [Nat.mul_add_div (Nat.pow_pos hd), Nat.div_eq_of_lt hc, Nat.add_zero, Nat.mod_eq_of_lt hu]
theorem mix_s {d k c u : Nat} {y : Nat → Nat} (hd : 0 < d) (hc : c < d ^ k) (hu : u < d) : mix d (k + 1) y (d ^ k * u + c) = mix d k (fun i => if i = k then u else y i) c := by
  funext i
  unfold mix
  dsimp only
  by_cases h1 : i < k
  · rw [if_pos (by omega), if_pos h1, dg_lo hd h1]
  · by_cases h2 : i = k
    · rw [if_pos (by omega), if_neg h1, if_pos h2, h2, dg_hi hd hc hu]
    · rw [if_neg (by omega), if_neg h1, if_neg h2]
theorem GS_s {d C k c u : Nat} {P : Nat → Nat} {cv : Nat → Nat → Nat} {TC al y : Nat → Nat} : GS d C P cv TC al (k + 1) (mix d k (fun i => if i = k then u else y i) c) ↔ (al k).testBit u = true ∧ (∀ c', c' < C → lowv (cv c') (P c') = k → hld d (P c') (TC c') (cv c') (fun i => if i = k then u else y i) = true) ∧ GS d C P cv TC al k (mix d k (fun i => if i = k then u else y i) c) := by
  have ek : mix d k (fun i => if i = k then u else y i) c k = u := by
    unfold mix
    dsimp only
    rw [if_neg (by omega), if_pos rfl]
  have eh : ∀ c', lowv (cv c') (P c') = k → hld d (P c') (TC c') (cv c') (mix d k (fun i => if i = k then u else y i) c) = hld d (P c') (TC c') (cv c') (fun i => if i = k then u else y i) := fun c' h => hld_cong fun p hp => by
    have := lowv_min (f := cv c') hp
    unfold mix
    rw [if_neg (by omega)]
  constructor
  · rintro ⟨h1, h2⟩
    refine ⟨by have := h1 k (by omega); rw [ek] at this; exact this, fun c' q1 q2 => ?_, fun i hi => h1 i (by omega), fun c' q1 q2 => h2 c' q1 (by omega)⟩
    rw [← eh c' q2]
    exact h2 c' q1 (by omega)
  · rintro ⟨h1, h2, h3, h4⟩
    refine ⟨fun i hi => ?_, fun c' q1 q2 => ?_⟩
    · by_cases he : i = k
      · rw [he, ek]; exact h1
      · exact h3 i (by omega)
    · by_cases he : lowv (cv c') (P c') = k
      · rw [eh c' he]; exact h2 c' q1 he
      · exact h4 c' q1 (by omega)
/-- the first of them is told -/
def Fst (d k : Nat) (Q : Nat → Prop) (N : Nat) (f : Nat → Int32) : Prop := ∀ c, c < N → Q c → (∀ c', c' < c → ¬ Q c') → ∀ i, i < k → f i = nI (dg d c i)
/-- what trying the variables below k comes to -/
def CS (self : Nat → xG → xA → Int32 → Int32 → Option (Int32 × xA)) (d j V C : Nat) (cr P : Nat → Nat) (cv : Nat → Nat → Nat) (TC al : Nat → Nat) (g : xG) (k : Nat) : Prop :=
  ∀ (a : xA) (y : Nat → Nat) (most : Nat), 1 ≤ most → most ≤ 729 → Ins d j V C cr P cv TC g a → (∀ v, v < 6 → a (29 + 7 * j) v = nI (al v) ∧ al v < 8) → (∀ v, k ≤ v → v < V → a (30 + 7 * j) v = nI (y v) ∧ y v < d) →
    ∃ f, self j g a (nI k + -nI 1) (nI most) = some (nI (min most (cb (fun c => GS d C P cv TC al k (mix d k y c)) (d ^ k))), upA a (30 + 7 * j) f) ∧ (∀ v, k ≤ v → f v = a (30 + 7 * j) v) ∧ (most = 1 → Fst d k (fun c => GS d C P cv TC al k (mix d k y c)) (d ^ k) f)
