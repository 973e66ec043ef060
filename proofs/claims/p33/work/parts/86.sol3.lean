/-! solutions, solutionsAnew, solve: the model, and the calls. -/
def InsM (d V C : Nat) (cr P : Nat → Nat) (cv : Nat → Nat → Nat) (TC : Nat → Nat) (gm : xG) (am : xA) : Prop := V ≤ 6 ∧ C ≤ 16 ∧ gm 6 = nI V ∧ gm 7 = nI C ∧ ∀ c, c < C → cr c < 8 ∧ am 9 c = nI (cr c) ∧ am 1 (cr c) = nI (P c) ∧ am 2 (cr c) = nI (TC c) ∧ TC c < 2 ^ (d ^ P c) ∧ 1 ≤ P c ∧ P c + d ≤ 5 ∧ ∀ p, p < P c → am 10 (3 * c + p) = nI (cv c p) ∧ cv c p < V
theorem InsM_of {d R V C : Nat} {pl tu cr : Nat → Nat} {cv : Nat → Nat → Nat} {g : xG} {a : xA} {gm : xG} {am : xA} (hR : CR d R pl tu g a gm am) (hI : CI R V C pl cr cv g a gm am) : InsM d V C cr (fun c => pl (cr c)) cv (fun c => tu (cr c)) gm am := by
  have hR8 := hR.1
  refine ⟨hI.2.1, hI.2.2.1, hI.2.2.2.2.1, hI.2.2.2.2.2.2.1, fun c hc => ?_⟩
  obtain ⟨q1, q2, q3, q4, q5, q6⟩ := hI.2.2.2.2.2.2.2 c hc
  obtain ⟨r1, r2, r3, r4, r5, r6, r7⟩ := hR.2.2.2.2.2 _ q1
  exact ⟨by omega, q3, r2, r4, r7, r5, r6, fun p hp => (q6 p hp).2⟩
theorem InsM_fr {d V C : Nat} {cr P : Nat → Nat} {cv : Nat → Nat → Nat} {TC : Nat → Nat} {gm gm' : xG} {am am' : xA} (h : InsM d V C cr P cv TC gm am) (h1 : gm' 6 = gm 6) (h2 : gm' 7 = gm 7) (h3 : am' 9 = am 9) (h4 : am' 1 = am 1) (h5 : am' 2 = am 2) (h6 : am' 10 = am 10) : InsM d V C cr P cv TC gm' am' := by
  unfold InsM at *
  rw [h1, h2, h3, h4, h5, h6]
  exact h
theorem is34 {d V C : Nat} {cr P : Nat → Nat} {cv : Nat → Nat → Nat} {TC : Nat → Nat} {g : xG} {a : xA} (hd : d = 2 ∨ d = 3) (h0 : g 0 = nI d) (hI : InsM d V C cr P cv TC g a) {c code : Nat} (hc : c < C) (hcode : code < 2 ^ 31) {K : Int32 → Int32 → Int32 → Option Int32} :
    ∀ (p r n : Nat), p + r = P c → p < n → f_X12_isSolution_34 g a K n (nI code) (nI c) (nI (nm d (fun q => dg d code (cv c (p + q))) r)) (nI p + -nI 1) = K (nI code) (if hld d (P c) (TC c) (cv c) (dg d code) then 1 else 0) (nI (c + 1))
  | 0, r, n, hp, hn => by
    obtain ⟨n, rfl⟩ := pos_of hn
    have e : r = P c := by omega
    subst e
    obtain ⟨_, hC, _, _, h⟩ := id hI
    obtain ⟨h1, h2, h3, h4, h5, h6, h7, h8⟩ := h c hc
    have hl := nm_lt (d := d) (f := fun q => dg d code (cv c q)) (P c) (fun p hp => dg_lt (by omega) _ _)
    have hp9 := pw9 hd h7
    have ht9 := TC_lt hd h5 h7
    rw [e_X12_isSolution_34, if_pos (show nI 0 + -nI 1 < 0 from m1z), hn_0 d (fun q => dg d code (cv c q)), ck_t (inB_t (by omega) (by decide)), nI_clamp (by omega), h2, ck_t (inB_t (by omega) (by decide)), nI_clamp (by omega), h4, isInM (by omega) (by omega), show nI c + 1 = nI (c + 1) from nI_1 c]
    rfl
  | p + 1, r, n, hp, hn => by
    obtain ⟨n, rfl⟩ := pos_of hn
    obtain ⟨hV, hC, _, _, h⟩ := id hI
    obtain ⟨h1, h2, h3, h4, h5, h6, h7, h8⟩ := h c hc
    have hpv := h8 p (by omega)
    rw [e_X12_isSolution_34, m1p, if_neg (nI_pos (by omega)), h0]
    simp only [z0, z1, z2, z3, z4, z5, z6, z7, z8, z9, z16, z27, z31, z32, z36, z60, nI_add, pk_mul, m1s]
    rw [ck_t (inB_t (by omega) (by decide)), nI_clamp (by omega), hpv.1, onM hd (by omega) h0 hcode, Option.bind_some, nI_add, hn_sh d (fun q => dg d code (cv c q))]
    exact is34 hd h0 hI hc hcode p (r + 1) n (by omega) (by omega)
def SolC (d C : Nat) (P : Nat → Nat) (cv : Nat → Nat → Nat) (TC : Nat → Nat) (z : Nat → Nat) : Prop := ∀ c, c < C → hld d (P c) (TC c) (cv c) z = true
theorem is4 {d V C : Nat} {cr P : Nat → Nat} {cv : Nat → Nat → Nat} {TC : Nat → Nat} {g : xG} {a : xA} (hd : d = 2 ∨ d = 3) (h0 : g 0 = nI d) (hI : InsM d V C cr P cv TC g a) {code : Nat} (hcode : code < 2 ^ 31) :
    ∀ (r c n : Nat) (b0 : Bool), c + r = C → r < n → ∃ b : Bool, f_X12_isSolution_4 g a n (nI code) (if b0 then 1 else 0) (nI c) = some (if b then 1 else 0) ∧ (b = true ↔ b0 = true ∧ ∀ c', c ≤ c' → c' < C → hld d (P c') (TC c') (cv c') (dg d code) = true)
  | 0, c, n, b0, hp, hn => by
    obtain ⟨n, rfl⟩ := pos_of hn
    refine ⟨b0, ?_, fun q => ⟨q, fun c' h1 h2 => by omega⟩, fun q => q.1⟩
    have hC := hI.2.1
    rw [e_X12_isSolution_4, hI.2.2.2.1, if_pos (nI_le (by omega) (by omega)), ck_t]
    cases b0 <;> decide
  | r + 1, c, n, b0, hp, hn => by
    obtain ⟨n, rfl⟩ := pos_of hn
    have hC := hI.2.1
    rw [e_X12_isSolution_4, hI.2.2.2.1, if_neg (nI_ge (by omega) (by omega))]
    cases b0 with
    | false =>
      refine ⟨false, ?_, fun q => (by cases q), fun q => q.1⟩
      rw [if_pos (by decide), ck_t (by decide)]
    | true =>
      obtain ⟨h1, h2, h3, h4, h5, h6, h7, h8⟩ := hI.2.2.2.2 c (by omega)
      have hc : c < C := by omega
      obtain ⟨b, e1, e2⟩ := is4 hd h0 hI hcode r (c + 1) n (hld d (P c) (TC c) (cv c) (dg d code)) (by omega) (by omega)
      refine ⟨b, ?_, e2.trans ⟨fun q => ⟨rfl, fun c' q1 q2 => ?_⟩, fun q => ⟨q.2 c (Nat.le_refl _) hc, fun c' q1 q2 => q.2 c' (by omega) q2⟩⟩⟩
      · have := is34 (K := f_X12_isSolution_4 g a n) hd h0 hI hc hcode (P c) 0 fu (by omega) (fu_gt (by omega))
        rw [if_neg (by decide), ck_t (inB_t (by omega) (by decide)), nI_clamp (by omega), h2, ck_t (inB_t (by omega) (by decide)), nI_clamp (by omega), h3]
        simp only [z0, z1, m1s] at this ⊢
        refine Eq.trans this ?_
        simp only [z0, z1] at e1
        exact e1
      · by_cases he : c' = c
        · rw [he]; exact q.1
        · exact q.2 c' (by omega) q2
theorem isSolM {d V C : Nat} {cr P : Nat → Nat} {cv : Nat → Nat → Nat} {TC : Nat → Nat} {g : xG} {a : xA} (hd : d = 2 ∨ d = 3) (h0 : g 0 = nI d) (hI : InsM d V C cr P cv TC g a) {code : Nat} (hcode : code < 2 ^ 31) :
    ∃ b : Bool, f_X12_isSolution g a (nI code) = some (if b then 1 else 0) ∧ (b = true ↔ SolC d C P cv TC (dg d code)) := by
  obtain ⟨b, e1, e2⟩ := is4 hd h0 hI hcode C 0 fu true (by omega) (fu_gt (by have := hI.2.1; omega))
  refine ⟨b, e1, e2.trans ⟨fun q c hc => q.2 c (Nat.zero_le _) hc, fun q => ⟨rfl, fun c' _ h => q c' h⟩⟩⟩
theorem so9 {d V C : Nat} {cr P : Nat → Nat} {cv : Nat → Nat → Nat} {TC : Nat → Nat} {g : xG} {a : xA} (hd : d = 2 ∨ d = 3) (h0 : g 0 = nI d) (hI : InsM d V C cr P cv TC g a) :
    ∀ (r p n : Nat), p + r = d ^ V → r < n → f_X12_solutions_9 a n g (nI (cb (fun c => SolC d C P cv TC (dg d c)) p)) (nI p) = some (nI (cb (fun c => SolC d C P cv TC (dg d c)) (d ^ V)), g)
  | 0, p, n, hp, hn => by
    obtain ⟨n, rfl⟩ := pos_of hn
    have e : p = d ^ V := by omega
    subst e
    have hV := hI.1
    have h7 := pw6 hd hV
    rw [e_X12_solutions_9, hI.2.2.1, pwM (by omega) h0, Option.bind_some, if_pos (nI_le (Nat.le_refl _) (by omega))]
  | r + 1, p, n, hp, hn => by
    obtain ⟨n, rfl⟩ := pos_of hn
    have hV := hI.1
    have h7 := pw6 hd hV
    obtain ⟨b, e1, e2⟩ := isSolM hd h0 hI (code := p) (by omega)
    have ih := so9 hd h0 hI r (p + 1) n (by omega) (by omega)
    rw [e_X12_solutions_9, hI.2.2.1, pwM (by omega) h0, Option.bind_some, if_neg (nI_ge (by omega) (by omega)), e1, Option.bind_some]
    cases hb : b with
    | false =>
      rw [cb_0 (P := fun c => SolC d C P cv TC (dg d c)) (fun q => by rw [e2.mpr q] at hb; cases hb)] at ih
      rw [if_pos (by decide)]
      simp only [z0, z1, nI_add, Nat.add_zero]
      exact ih
    | true =>
      rw [cb_1 (P := fun c => SolC d C P cv TC (dg d c)) (e2.mp hb)] at ih
      rw [if_neg (by decide)]
      simp only [z0, z1, nI_add]
      exact ih
theorem sv7 {d V C : Nat} {cr P : Nat → Nat} {cv : Nat → Nat → Nat} {TC : Nat → Nat} {g : xG} {a : xA} (hd : d = 2 ∨ d = 3) (h0 : g 0 = nI d) (hI : InsM d V C cr P cv TC g a) :
    ∀ (r p n : Nat), p + r = d ^ V → r < n → (∀ c, c < p → ¬ SolC d C P cv TC (dg d c)) → (f_X12_solve_7 a n g (nI p) = some (-1, g) ∧ ∀ c, c < d ^ V → ¬ SolC d C P cv TC (dg d c)) ∨ ∃ c, c < d ^ V ∧ SolC d C P cv TC (dg d c) ∧ (∀ c', c' < c → ¬ SolC d C P cv TC (dg d c')) ∧ f_X12_solve_7 a n g (nI p) = some (nI c, g)
  | 0, p, n, hp, hn, hno => by
    obtain ⟨n, rfl⟩ := pos_of hn
    have e : p = d ^ V := by omega
    subst e
    have hV := hI.1
    have h7 := pw6 hd hV
    refine Or.inl ⟨?_, hno⟩
    rw [e_X12_solve_7, hI.2.2.1, pwM (by omega) h0, Option.bind_some, if_pos (nI_le (Nat.le_refl _) (by omega))]
  | r + 1, p, n, hp, hn, hno => by
    obtain ⟨n, rfl⟩ := pos_of hn
    have hV := hI.1
    have h7 := pw6 hd hV
    obtain ⟨b, e1, e2⟩ := isSolM hd h0 hI (code := p) (by omega)
    rw [e_X12_solve_7, hI.2.2.1, pwM (by omega) h0, Option.bind_some, if_neg (nI_ge (by omega) (by omega)), e1, Option.bind_some]
    cases hb : b with
    | false =>
      rw [if_pos (by decide), show nI p + 1 = nI (p + 1) from nI_1 p]
      exact sv7 hd h0 hI r (p + 1) n (by omega) (by omega) (fun c hc => by
        by_cases he : c = p
        · rw [he]
          intro q
          rw [e2.mpr q] at hb
          cases hb
        · exact hno c (by omega))
    | true =>
      rw [if_neg (by decide)]
      exact Or.inr ⟨p, by omega, e2.mp hb, hno, rfl⟩
theorem allV {d : Nat} {g : xG} {a : xA} (hB : Bas d g a) : t_X4_allValues g a = nI (2 ^ d - 1) := by
  unfold t_X4_allValues
  rw [hB.2.1]
  rcases hB.1 with rfl | rfl <;> decide
theorem aA {d j : Nat} {g : xG} (hj : j < 2) : ∀ (r p n : Nat) (a : xA), p + r = 6 → r < n → Bas d g a → ∃ f, f_X2_allowAll_2 j g n a (nI p) = some (upA a (29 + 7 * j) f) ∧ (∀ v, v < p → f v = a (29 + 7 * j) v) ∧ ∀ v, p ≤ v → v < 6 → f v = nI (2 ^ d - 1)
  | 0, p, n, a, hp, hn, hB => by
    obtain ⟨n, rfl⟩ := pos_of hn
    refine ⟨a (29 + 7 * j), ?_, fun _ _ => rfl, fun v h1 h2 => by omega⟩
    rw [e_X2_allowAll_2, if_pos (show (6 : Int32) ≤ nI p from nI_le (a := 6) (by omega) (by omega)), upA_id]
  | r + 1, p, n, a, hp, hn, hB => by
    obtain ⟨n, rfl⟩ := pos_of hn
    obtain ⟨f, e1, e2, e3⟩ := aA (d := d) hj r (p + 1) n (upA a (29 + 7 * j) (upd (a (29 + 7 * j)) p (nI (2 ^ d - 1)))) (by omega) (by omega) (Bas_fr hB rfl (upA_n _ _ (by omega)) (upA_n _ _ (by omega)))
    refine ⟨f, ?_, fun v hv => ?_, fun v h1 h2 => ?_⟩
    · rw [e_X2_allowAll_2, if_neg (show ¬ (6 : Int32) ≤ nI p from nI_ge (a := p) (b := 6) (by omega) (by decide)), ck_t (inB_t (by omega) (by decide)), nI_clamp (by omega), allV hB, show nI p + 1 = nI (p + 1) from nI_1 p, e1, upA_2]
    · rw [e2 v (by omega), upA_s, upd_n _ _ (by omega)]
    · by_cases he : v = p
      · rw [he, e2 p (by omega), upA_s, upd_s]
      · exact e3 v (by omega) h2
theorem allowA {d j : Nat} {g : xG} {a : xA} (hj : j < 2) (hB : Bas d g a) : ∃ f, f_X2_allowAll j g a = some (upA a (29 + 7 * j) f) ∧ ∀ v, v < 6 → f v = nI (2 ^ d - 1) := by
  obtain ⟨f, e1, _, e3⟩ := aA hj 6 0 fu a (by omega) (fu_gt (by omega)) hB
  exact ⟨f, e1, fun v hv => e3 v (Nat.zero_le _) hv⟩
theorem all_bit {d u : Nat} (h : u < d) : (2 ^ d - 1).testBit u = true := by
  rw [Nat.testBit_two_pow_sub_one]
  exact decide_eq_true h
theorem GS_all {d V C : Nat} {P : Nat → Nat} {cv : Nat → Nat → Nat} {TC : Nat → Nat} {y : Nat → Nat} {c : Nat} (hd : 0 < d) (h : ∀ c, c < C → 1 ≤ P c ∧ ∀ p, p < P c → cv c p < V) : GS d C P cv TC (fun _ => 2 ^ d - 1) V (mix d V y c) ↔ SolC d C P cv TC (dg d c) := by
  have eh : ∀ c', c' < C → hld d (P c') (TC c') (cv c') (mix d V y c) = hld d (P c') (TC c') (cv c') (dg d c) := fun c' hc => hld_cong fun p hp => by
    unfold mix
    rw [if_pos ((h c' hc).2 p hp)]
  constructor
  · rintro ⟨_, h2⟩ c' hc
    rw [← eh c' hc]
    have := lowv_min (f := cv c') (n := P c') (p := 0) (h c' hc).1
    exact h2 c' hc (by have := (h c' hc).2 0 (h c' hc).1; omega)
  · intro h2
    refine ⟨fun i hi => ?_, fun c' hc _ => ?_⟩
    · unfold mix
      rw [if_pos hi]
      exact all_bit (dg_lt hd _ _)
    · rw [eh c' hc]
      exact h2 c' hc
