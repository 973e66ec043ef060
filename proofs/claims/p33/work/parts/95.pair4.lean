/-! pairs: what is left, the model; the call. -/
theorem updd (f : Nat → Int32) (k : Nat) (x y : Int32) : upd (upd f k x) k y = upd f k y := by
  funext j
  by_cases h : j = k
  · rw [h, upd_s, upd_s]
  · rw [upd_n _ _ h, upd_n _ _ h, upd_n _ _ h]
theorem upd_id (f : Nat → Int32) (k : Nat) {x : Int32} (h : f k = x) : upd f k x = f := by
  funext j
  by_cases hj : j = k
  · rw [hj, upd_s, h]
  · rw [upd_n _ _ hj]
theorem fp28 {d V C : Nat} {cr P : Nat → Nat} {cv : Nat → Nat → Nat} {TC : Nat → Nat} {g : xG} (hd : d = 2 ∨ d = 3) (h0 : g 0 = nI d) {k : Nat} (hk : k < 36) {K2 : xA → Int32 → Option xA} :
    ∀ (r t n acc : Nat) (a : xA), t + r = d * d → r < n → InsM d V C cr P cv TC g a → a 13 k = nI acc → acc < 2 ^ 9 → ∃ X, f_X12_findsPairs_28 g K2 n a (nI k) (nI (k / 6)) (nI (k % 6)) (nI t) = K2 (upA a 13 (upd (a 13) k (nI X))) (nI (k + 1)) ∧ X < 2 ^ 9 ∧ ∀ u, X.testBit u = true ↔ acc.testBit u = true ∨ (t ≤ u ∧ InitP d V C P cv TC k u)
  | 0, t, n, acc, a, ht, hn, hI, ha, hl => by
    obtain ⟨n, rfl⟩ := pos_of hn
    have hd9 := dd9 hd
    refine ⟨acc, ?_, hl, fun u => ⟨Or.inl, fun q => ?_⟩⟩
    · rw [e_X12_findsPairs_28, h0, pk_mul, if_pos (nI_le (by omega) (by omega)), upd_id _ _ ha, upA_id, show nI k + 1 = nI (k + 1) from nI_1 k]
    · rcases q with q | ⟨q1, _, q2, _⟩
      · exact q
      · omega
  | r + 1, t, n, acc, a, ht, hn, hI, ha, hl => by
    obtain ⟨n, rfl⟩ := pos_of hn
    have hd9 := dd9 hd
    have hd0 : 0 < d := by omega
    have hV := hI.1
    have out : ¬ relP V k → ∃ X, K2 a (nI (k + 1)) = K2 (upA a 13 (upd (a 13) k (nI X))) (nI (k + 1)) ∧ X < 2 ^ 9 ∧ ∀ u, X.testBit u = true ↔ acc.testBit u = true ∨ (t ≤ u ∧ InitP d V C P cv TC k u) := fun hno => by
      refine ⟨acc, ?_, hl, fun u => ⟨Or.inl, fun q => ?_⟩⟩
      · rw [upd_id _ _ ha, upA_id]
      · rcases q with q | ⟨_, q, _⟩
        · exact q
        · exact absurd q hno
    rw [e_X12_findsPairs_28, h0, pk_mul, if_neg (nI_ge (by omega) (by omega)), hI.2.2.1, show nI k + 1 = nI (k + 1) from nI_1 k, show nI t + 1 = nI (t + 1) from nI_1 t]
    by_cases c1 : V ≤ k / 6
    · rw [if_pos (nI_le c1 (by omega))]
      exact out (fun q => by have := q.2.1; omega)
    rw [if_neg (nI_ge (by omega) (by omega))]
    by_cases c2 : V ≤ k % 6
    · rw [if_pos (nI_le c2 (by omega))]
      exact out (fun q => by have := q.2.2.1; omega)
    rw [if_neg (nI_ge (by omega) (by omega))]
    by_cases c3 : k / 6 = k % 6
    · rw [if_pos (by rw [c3])]
      exact out (fun q => q.2.2.2 c3)
    rw [if_neg (fun h => c3 ((nI_eqs (by omega) (by omega)).mp h))]
    have hrel : relP V k := ⟨hk, by omega, by omega, c3⟩
    obtain ⟨b, e1, e2⟩ := bothM hd h0 hI (x := k / 6) (y := k % 6) (u := t) (by omega) (by omega) c3 (by omega)
    rw [ck_t (inB_t hk (by decide)), ck_t (nzB_t hd0 (by omega)), ck_t (nzB_t hd0 (by omega)), pk_rem (by omega) hd0 (by omega), pk_div (by omega) hd0 (by omega), e1, Option.bind_some, nI_clamp (by omega), ha]
    cases hb : b with
    | false =>
      rw [if_pos (by decide), ck_t (inB_t hk (by decide)), show nI acc ||| 0 = nI acc by rw [z0, nI_or, Nat.or_zero], upd_id _ _ ha, upA_id]
      obtain ⟨X, q1, q2, q3⟩ := fp28 hd h0 hk (K2 := K2) r (t + 1) n acc a (by omega) (by omega) hI ha hl
      refine ⟨X, q1, q2, fun u => (q3 u).trans ⟨fun q => ?_, fun q => ?_⟩⟩
      · rcases q with q | ⟨q4, q5⟩
        · exact Or.inl q
        · exact Or.inr ⟨by omega, q5⟩
      · rcases q with q | ⟨q4, q5⟩
        · exact Or.inl q
        · by_cases he : u = t
          · rw [he] at q5
            rw [e2.mpr q5.2.2] at hb
            cases hb
          · exact Or.inr ⟨by omega, q5⟩
    | true =>
      rw [if_neg (by decide), ck_t (inB_t hk (by decide)), shl_nI (by omega), nI_or]
      obtain ⟨X, q1, q2, q3⟩ := fp28 hd h0 hk (K2 := K2) r (t + 1) n (acc ||| 2 ^ t) (upA a 13 (upd (a 13) k (nI (acc ||| 2 ^ t)))) (by omega) (by omega) (InsM_fr hI rfl rfl (upA_n _ _ (by decide)) (upA_n _ _ (by decide)) (upA_n _ _ (by decide)) (upA_n _ _ (by decide))) (by rw [upA_s, upd_s]) (or_lt hl (by omega))
      rw [upA_s, upA_2, updd] at q1
      refine ⟨X, q1, q2, fun u => (q3 u).trans ?_⟩
      rw [or_bit]
      constructor
      · rintro ((q | q) | ⟨q4, q5⟩)
        · exact Or.inl q
        · exact Or.inr ⟨by omega, hrel, by omega, q ▸ e2.mp hb⟩
        · exact Or.inr ⟨by omega, q5⟩
      · rintro (q | ⟨q4, q5⟩)
        · exact Or.inl (Or.inl q)
        · by_cases he : u = t
          · exact Or.inl (Or.inr he.symm)
          · exact Or.inr ⟨by omega, q5⟩
theorem fp2 {d V C : Nat} {cr P : Nat → Nat} {cv : Nat → Nat → Nat} {TC : Nat → Nat} {g : xG} (hd : d = 2 ∨ d = 3) (h0 : g 0 = nI d) :
    ∀ (r k n : Nat) (a : xA) (A : Nat → Nat), k + r = 36 → r < n → InsM d V C cr P cv TC g a → (∀ j, j < k → a 13 j = nI (A j)) → (∀ j, A j < 2 ^ 9) → (∀ j u, (A j).testBit u = true ↔ j < k ∧ InitP d V C P cv TC j u) →
    ∃ (f : Nat → Int32) (A' : Nat → Nat), f_X12_findsPairs_2 g n a (nI k) = f_X12_findsPairs_117 g fu (upA a 13 f) 1 ∧ (∀ j, j < 36 → f j = nI (A' j) ∧ A' j < 2 ^ 9) ∧ ∀ j u, (A' j).testBit u = true ↔ InitP d V C P cv TC j u
  | 0, k, n, a, A, hk, hn, hI, ha, hl, h => by
    obtain ⟨n, rfl⟩ := pos_of hn
    refine ⟨a 13, A, ?_, fun j hj => ⟨ha j (by omega), hl j⟩, fun j u => (h j u).trans ⟨fun q => q.2, fun q => ⟨by have := q.1.1; omega, q⟩⟩⟩
    rw [e_X12_findsPairs_2, if_pos (show (36 : Int32) ≤ nI k from nI_le (a := 36) (by omega) (by omega)), upA_id]
  | r + 1, k, n, a, A, hk, hn, hI, ha, hl, h => by
    obtain ⟨n, rfl⟩ := pos_of hn
    have hd9 := dd9 hd
    obtain ⟨X, q1, q2, q3⟩ := fp28 hd h0 (k := k) (by omega) (K2 := f_X12_findsPairs_2 g n) (d * d) 0 fu 0 (upA a 13 (upd (a 13) k 0)) (by omega) (fu_gt (by omega)) (InsM_fr hI rfl rfl (upA_n _ _ (by decide)) (upA_n _ _ (by decide)) (upA_n _ _ (by decide)) (upA_n _ _ (by decide))) (by rw [upA_s, upd_s]; rfl) (by decide)
    rw [upA_s, upA_2, updd] at q1
    obtain ⟨f, A', e1, e2, e3⟩ := fp2 hd h0 r (k + 1) n (upA a 13 (upd (a 13) k (nI X))) (fun j => if j = k then X else A j) (by omega) (by omega) (InsM_fr hI rfl rfl (upA_n _ _ (by decide)) (upA_n _ _ (by decide)) (upA_n _ _ (by decide)) (upA_n _ _ (by decide))) (fun j hj => by
      rw [upA_s]
      by_cases he : j = k
      · rw [if_pos he, he, upd_s]
      · rw [if_neg he, upd_n _ _ he]
        exact ha j (by omega)) (fun j => by
      by_cases he : j = k
      · rw [if_pos he]; exact q2
      · rw [if_neg he]; exact hl j) (fun j u => by
      by_cases he : j = k
      · rw [if_pos he, q3 u, Nat.zero_testBit, he]
        constructor
        · rintro (q | ⟨_, q⟩)
          · cases q
          · exact ⟨by omega, q⟩
        · rintro ⟨_, q⟩
          exact Or.inr ⟨Nat.zero_le _, q⟩
      · rw [if_neg he, h j u]
        constructor
        · rintro ⟨k1, k2⟩
          exact ⟨by omega, k2⟩
        · rintro ⟨k1, k2⟩
          exact ⟨by omega, k2⟩)
    rw [upA_2] at e1
    refine ⟨f, A', ?_, e2, e3⟩
    have d6 : nI k / 6 = nI (k / 6) := pk_div (d := 6) (by omega) (by decide) (by decide)
    have m6 : nI k - nI (k / 6) * 6 = nI (k % 6) := rem_ k 6
    rw [e_X12_findsPairs_2, if_neg (show ¬ (36 : Int32) ≤ nI k from nI_ge (a := k) (b := 36) (by omega) (by decide)), ck_t (inB_t (by omega) (by decide)), nI_clamp (by omega), d6, m6]
    exact q1.trans e1
def InvW (d V : Nat) (MXp : Nat → Nat → Prop) (A0 A : Nat → Nat) (h : Nat → Int32) (fl k t : Nat) : Prop := (∀ j, j < 36 → h j = nI (A j) ∧ A j < 2 ^ 9) ∧ (∀ j u, MXp j u → hr (relP V) A j u) ∧ (∀ j u, (A j).testBit u = true → (A0 j).testBit u = true) ∧ ((fl = 0 ∧ A = A0 ∧ ∀ k' u', (k' < k ∨ (k' = k ∧ u' < t)) → (A0 k').testBit u' = true → SupP d V (hr (relP V) A0) k' u') ∨ (fl = 1 ∧ ms 9 A 36 < ms 9 A0 36))
theorem w133 {d V : Nat} {Init : Nat → Nat → Prop} {A0 : Nat → Nat} {g : xG} (hd : d = 2 ∨ d = 3) (h0 : g 0 = nI d) (hV : V ≤ 6) (hg : g 6 = nI V) (hA0 : ∀ j u, (A0 j).testBit u = true → relP V j ∧ u < d * d) {k : Nat} (hk : k < 36) {K117 : xA → Int32 → Option xA} {K125 : xA → Int32 → Int32 → Option xA} :
    ∀ (r t n : Nat) (a : xA) (A : Nat → Nat) (fl : Nat), t + r = d * d → r < n → InvW d V (MX Init (SupP d V)) A0 A (a 13) fl k t →
    ∃ f A' fl', f_X12_findsPairs_133 g K117 K125 n a (nI fl) (nI k) (nI t) = K125 (upA a 13 f) (nI fl') (nI (k + 1)) ∧ InvW d V (MX Init (SupP d V)) A0 A' f fl' (k + 1) 0
  | 0, t, n, a, A, fl, ht, hn, hv => by
    obtain ⟨n, rfl⟩ := pos_of hn
    have hd9 := dd9 hd
    refine ⟨a 13, A, fl, ?_, hv.1, hv.2.1, hv.2.2.1, ?_⟩
    · rw [e_X12_findsPairs_133, h0, pk_mul, if_pos (nI_le (by omega) (by omega)), upA_id, show nI k + 1 = nI (k + 1) from nI_1 k]
    · rcases hv.2.2.2 with ⟨q1, q2, q3⟩ | q
      · refine Or.inl ⟨q1, q2, fun k' u' k1 k2 => q3 k' u' ?_ k2⟩
        have := (hA0 k' u' k2).2
        omega
      · exact Or.inr q
  | r + 1, t, n, a, A, fl, ht, hn, hv => by
    obtain ⟨n, rfl⟩ := pos_of hn
    have hd9 := dd9 hd
    have hd0 : 0 < d := by omega
    obtain ⟨k1, k2⟩ := hv.1 k hk
    have same : (fl = 0 → (A0 k).testBit t = true → SupP d V (hr (relP V) A0) k t) → ∃ f A' fl', f_X12_findsPairs_133 g K117 K125 n a (nI fl) (nI k) (nI (t + 1)) = K125 (upA a 13 f) (nI fl') (nI (k + 1)) ∧ InvW d V (MX Init (SupP d V)) A0 A' f fl' (k + 1) 0 := fun hok => by
      refine w133 hd h0 hV hg hA0 hk r (t + 1) n a A fl (by omega) (by omega) ⟨hv.1, hv.2.1, hv.2.2.1, ?_⟩
      rcases hv.2.2.2 with ⟨q1, q2, q3⟩ | q
      · refine Or.inl ⟨q1, q2, fun k' u' m1 m2 => ?_⟩
        by_cases he : k' = k ∧ u' = t
        · obtain ⟨rfl, rfl⟩ := he
          exact hok q1 m2
        · exact q3 k' u' (by omega) m2
      · exact Or.inr q
    have d6 : nI k / 6 = nI (k / 6) := pk_div (d := 6) (by omega) (by decide) (by decide)
    have m6 : nI k - nI (k / 6) * 6 = nI (k % 6) := rem_ k 6
    have hfl : fl < 2 := by
      rcases hv.2.2.2 with ⟨q, _⟩ | ⟨q, _⟩ <;> omega
    rw [e_X12_findsPairs_133, h0, pk_mul, if_neg (nI_ge (by omega) (by omega)), ck_t (inB_t hk (by decide)), nI_clamp (by omega), k1, isInM (by omega) (by omega), show nI t + 1 = nI (t + 1) from nI_1 t]
    cases hb : (A k).testBit t with
    | false =>
      rw [if_pos (by decide)]
      refine same (fun q1 q2 => ?_)
      rcases hv.2.2.2 with ⟨_, q3, _⟩ | ⟨q3, _⟩
      · rw [← q3, hb] at q2
        cases q2
      · omega
    | true =>
      have hrel := hA0 k t (hv.2.2.1 k t hb)
      obtain ⟨b, e1, e2⟩ := betwM hd h0 hV hg hv.1 hrel.1 hrel.2
      rw [if_neg (by decide), ck_t (nzB_t hd0 (by omega)), ck_t (nzB_t hd0 (by omega)), d6, m6, pk_rem (by omega) hd0 (by omega), pk_div (by omega) hd0 (by omega), e1, Option.bind_some]
      cases hbb : b with
      | true =>
        rw [if_neg (by decide)]
        refine same (fun q1 _ => ?_)
        rcases hv.2.2.2 with ⟨_, q3, _⟩ | ⟨q3, _⟩
        · rw [← q3]
          exact e2.mp hbb
        · omega
      | false =>
        rw [if_pos (by decide), ck_t (inB_t hk (by decide)), ck_t (inB_t hk (by decide)), shl_nI (by omega), nI_diff]
        have hsub : ∀ j, (bdiff (A k) (2 ^ t)).testBit j = true → (A k).testBit j = true := fun j hj => by
          rw [bdiff_bit, Bool.and_eq_true] at hj
          exact hj.1
        have hux : (bdiff (A k) (2 ^ t)).testBit t = false := by
          rw [bdiff_bit, Nat.testBit_two_pow_self]
          simp
        have ih := w133 (A0 := A0) (Init := Init) hd h0 hV hg hA0 hk (K117 := K117) (K125 := K125) r (t + 1) n (upA a 13 (upd (a 13) k (nI (bdiff (A k) (2 ^ t))))) (fun j => if j = k then bdiff (A k) (2 ^ t) else A j) 1 (by omega) (by omega) ⟨fun w hw => ?_, ?_, fun w x hx => ?_, Or.inr ⟨rfl, ?_⟩⟩
        · obtain ⟨f, A', fl', q1, q2⟩ := ih
          rw [upA_2] at q1
          exact ⟨f, A', fl', q1, q2⟩
        · rw [upA_s]
          dsimp only
          by_cases he : w = k
          · rw [if_pos he, he, upd_s]
            exact ⟨rfl, bdiff_le _ _ k2⟩
          · rw [if_neg he, upd_n _ _ he]
            exact hv.1 w hw
        · refine MXR_keep SupP_mono hv.2.1 (fun w x q1 q2 => ⟨q1.1, ?_⟩)
          dsimp only
          by_cases he : w = k
          · rw [if_pos he, bdiff_bit, Bool.and_eq_true]
            refine ⟨he ▸ q1.2, ?_⟩
            rw [Nat.testBit_two_pow]
            by_cases hx : t = x
            · exfalso
              rw [he, ← hx] at q2
              rw [e2.mpr q2] at hbb
              cases hbb
            · simp [hx]
          · rw [if_neg he]
            exact q1.2
        · dsimp only at hx
          by_cases he : w = k
          · rw [if_pos he] at hx
            rw [he]
            exact hv.2.2.1 _ _ (hsub x hx)
          · rw [if_neg he] at hx
            exact hv.2.2.1 _ _ hx
        · have := ms_lt (A := A) (k := k) (B := 9) hsub hux hb (by omega) 36 hk
          rcases hv.2.2.2 with ⟨_, q2, _⟩ | ⟨_, q⟩
          · rw [q2] at this ⊢
            exact this
          · omega
theorem w125 {d V : Nat} {Init : Nat → Nat → Prop} {A0 : Nat → Nat} {g : xG} (hd : d = 2 ∨ d = 3) (h0 : g 0 = nI d) (hV : V ≤ 6) (hg : g 6 = nI V) (hA0 : ∀ j u, (A0 j).testBit u = true → relP V j ∧ u < d * d) {K117 : xA → Int32 → Option xA} :
    ∀ (r k n : Nat) (a : xA) (A : Nat → Nat) (fl : Nat), k + r = 36 → r < n → InvW d V (MX Init (SupP d V)) A0 A (a 13) fl k 0 →
    ∃ f A' fl', f_X12_findsPairs_125 g K117 n a (nI fl) (nI k) = K117 (upA a 13 f) (nI fl') ∧ InvW d V (MX Init (SupP d V)) A0 A' f fl' 36 0
  | 0, k, n, a, A, fl, hk, hn, hv => by
    obtain ⟨n, rfl⟩ := pos_of hn
    have e : k = 36 := by omega
    subst e
    refine ⟨a 13, A, fl, ?_, hv⟩
    rw [e_X12_findsPairs_125, if_pos (show (36 : Int32) ≤ nI 36 by decide), upA_id]
  | r + 1, k, n, a, A, fl, hk, hn, hv => by
    obtain ⟨n, rfl⟩ := pos_of hn
    have hd9 := dd9 hd
    obtain ⟨f, A1, fl1, e1, e2⟩ := w133 hd h0 hV hg hA0 (k := k) (by omega) (K117 := K117) (K125 := f_X12_findsPairs_125 g K117 n) (d * d) 0 fu a A fl (by omega) (fu_gt (by omega)) hv
    obtain ⟨f2, A2, fl2, e3, e4⟩ := w125 hd h0 hV hg hA0 (K117 := K117) r (k + 1) n (upA a 13 f) A1 fl1 (by omega) (by omega) (by rw [upA_s]; exact e2)
    rw [upA_2] at e3
    refine ⟨f2, A2, fl2, ?_, e4⟩
    rw [e_X12_findsPairs_125, if_neg (show ¬ (36 : Int32) ≤ nI k from nI_ge (a := k) (b := 36) (by omega) (by decide))]
    exact e1.trans e3
theorem w117 {d V : Nat} {Init : Nat → Nat → Prop} {g : xG} (hd : d = 2 ∨ d = 3) (h0 : g 0 = nI d) (hV : V ≤ 6) (hg : g 6 = nI V) :
    ∀ (m n : Nat) (a : xA) (A : Nat → Nat), ms 9 A 36 ≤ m → m + 2 < n → (∀ j, j < 36 → a 13 j = nI (A j) ∧ A j < 2 ^ 9) → (∀ j u, (A j).testBit u = true → relP V j ∧ u < d * d) → (∀ j u, (A j).testBit u = true → Init j u) → (∀ j u, MX Init (SupP d V) j u → hr (relP V) A j u) →
    ∃ f A', f_X12_findsPairs_117 g n a 1 = some (upA a 13 f) ∧ (∀ j, j < 36 → f j = nI (A' j)) ∧ ∀ k u, hr (relP V) A' k u ↔ MX Init (SupP d V) k u := by
  intro m
  induction m with
  | zero =>
    intro n a A hms hn ha hA0 hi hm
    obtain ⟨n, rfl⟩ := pos_of hn
    obtain ⟨n, rfl⟩ : ∃ n', n = n' + 1 := ⟨n - 1, by omega⟩
    obtain ⟨f, A1, fl, e1, e2⟩ := w125 (A0 := A) hd h0 hV hg hA0 (K117 := f_X12_findsPairs_117 g (n + 1)) 36 0 fu a A 0 rfl (fu_gt (by omega)) ⟨ha, hm, fun _ _ h => h, Or.inl ⟨rfl, rfl, fun k' u' h => by omega⟩⟩
    rcases e2.2.2.2 with ⟨q1, q2, q3⟩ | ⟨q1, q2⟩
    · refine ⟨f, A1, ?_, fun j hj => (e2.1 j hj).1, fun k u => MXR_eq (fun k u hk => ⟨hi k u (q2 ▸ hk.2), ?_⟩) e2.2.1 k u⟩
      · rw [e_X12_findsPairs_117, if_neg (by decide)]
        refine Eq.trans e1 ?_
        rw [q1, e_X12_findsPairs_117, if_pos (show nI 0 = 0 from rfl)]
      · rw [q2] at hk ⊢
        exact q3 k u (Or.inl hk.1.1) hk.2
    · omega
  | succ m ih =>
    intro n a A hms hn ha hA0 hi hm
    obtain ⟨n, rfl⟩ := pos_of hn
    obtain ⟨n, rfl⟩ : ∃ n', n = n' + 1 := ⟨n - 1, by omega⟩
    obtain ⟨f, A1, fl, e1, e2⟩ := w125 (A0 := A) hd h0 hV hg hA0 (K117 := f_X12_findsPairs_117 g (n + 1)) 36 0 fu a A 0 rfl (fu_gt (by omega)) ⟨ha, hm, fun _ _ h => h, Or.inl ⟨rfl, rfl, fun k' u' h => by omega⟩⟩
    rcases e2.2.2.2 with ⟨q1, q2, q3⟩ | ⟨q1, q2⟩
    · refine ⟨f, A1, ?_, fun j hj => (e2.1 j hj).1, fun k u => MXR_eq (fun k u hk => ⟨hi k u (q2 ▸ hk.2), ?_⟩) e2.2.1 k u⟩
      · rw [e_X12_findsPairs_117, if_neg (by decide)]
        refine Eq.trans e1 ?_
        rw [q1, e_X12_findsPairs_117, if_pos (show nI 0 = 0 from rfl)]
      · rw [q2] at hk ⊢
        exact q3 k u (Or.inl hk.1.1) hk.2
    · obtain ⟨f2, A2, e3, e4, e5⟩ := ih (n + 1) (upA a 13 f) A1 (by omega) (by omega) (by rw [upA_s]; exact e2.1) (fun j u hu => hA0 j u (e2.2.2.1 j u hu)) (fun j u hu => hi j u (e2.2.2.1 j u hu)) e2.2.1
      rw [upA_2] at e3
      refine ⟨f2, A2, ?_, e4, e5⟩
      rw [e_X12_findsPairs_117, if_neg (by decide)]
      refine Eq.trans e1 ?_
      rw [q1]
      exact e3
theorem ob1_pairs : ob_pairs Cpl := by
  intro g a gm am v1 v2 h
  have hC := h
  obtain ⟨d, R, K, T, V, C, pl, tu, ar, ch, cr, an, cv, hB, h0, hR, hK, hT, hI⟩ := h
  have hd := hB.1
  have hX := Ins_of hR hI
  have hM := InsM_of hR hI
  have hV := hI.2.1
  have hg14 : g (12 + 2 * 1) = nI V := hI.2.2.2.1
  have hm6 : gm 6 = nI V := hI.2.2.2.2.1
  have no : ∀ v : Int32, (v < 0 ∨ nI V ≤ v) → t_X2_isThere 1 g a v = 0 := fun v q1 => by
    unfold t_X2_isThere
    rw [hg14]
    by_cases h2 : v < 0
    · rw [if_pos h2]
    · rw [if_neg h2, if_pos (q1.resolve_left h2)]
  have yes : ∀ x, x < V → ¬ t_X2_isThere 1 g a (nI x) = 0 := fun x hx => by
    unfold t_X2_isThere
    rw [hg14, if_neg (nI_pos (by omega)), if_neg (nI_ge hx (by omega))]
    decide
  have m53 : ∀ s : Nat, s ≠ 0 → s < 4 → f_X12_pairs_53 gm am v1 v2 (nI s) = some (0, upd gm 8 (nI s), am) := fun s hs h4 => by
    unfold f_X12_pairs_53
    rw [if_neg (by rw [upd_s]; exact nI_nle (by omega) (by omega))]
  have m33 : f_X12_pairs_33 gm am v1 v2 0 = some (0, upd gm 8 1, am) := by
    unfold f_X12_pairs_33
    rw [if_pos rfl]
    exact m53 1 (by decide) (by decide)
  rcases ix3 v1 (R := V) (by omega) with ⟨q1, q2⟩ | ⟨x, hx, rfl⟩
  · refine Or.inr (Or.inl ⟨(3, a), (0, upd gm 8 1, am), ?_, rfl, ?_, thr_8, Cpl_8 hC⟩)
    · unfold f_X11_pairs
      rw [if_pos (no _ q1)]
      rfl
    · unfold f_X12_pairs
      rw [hm6, if_pos (inR_0 q2), m33]
  rcases ix3 v2 (R := V) (by omega) with ⟨q1, q2⟩ | ⟨y, hy, rfl⟩
  · refine Or.inr (Or.inl ⟨(3, a), (0, upd gm 8 1, am), ?_, rfl, ?_, thr_8, Cpl_8 hC⟩)
    · unfold f_X11_pairs
      rw [if_neg (yes x hx), if_pos (no _ q1)]
      rfl
    · unfold f_X12_pairs
      rw [hm6, if_neg (by rw [inR_1 hx (by omega)]; decide), if_pos (inR_0 q2), m33]
  have em : f_X12_pairs gm am (nI x) (nI y) = f_X12_pairs_33 gm am (nI x) (nI y) 1 := by
    unfold f_X12_pairs
    rw [hm6, if_neg (by rw [inR_1 hx (by omega)]; decide), if_neg (by rw [inR_1 hy (by omega)]; decide)]
  by_cases hxy : x = y
  · refine Or.inr (Or.inr ⟨(1, a), (0, upd gm 8 (nI 2), am), ?_, rfl, ?_, thr_8, Cpl_8 hC⟩)
    · unfold f_X11_pairs
      rw [if_neg (yes x hx), if_neg (yes y hy), if_pos (by rw [hxy])]
    · rw [em]
      unfold f_X12_pairs_33
      rw [if_neg (by decide), if_pos (by rw [hxy])]
      exact m53 2 (by decide) (by decide)
  have hne : ¬ nI x = nI y := fun h => hxy ((nI_eqs (by omega) (by omega)).mp h)
  obtain ⟨f, f', A, x1, x2⟩ := pairsX hx hy hB hX
  have hM' : InsM d V C cr (fun c => pl (cr c)) cv (fun c => tu (cr c)) (upd gm 8 0) am := InsM_fr hM (upd_n _ _ (by decide)) (upd_n _ _ (by decide)) rfl rfl rfl rfl
  have h0' : upd gm 8 0 0 = nI d := (upd_n _ _ (by decide)).trans h0
  obtain ⟨fm, Am, m1, m2, m3⟩ := fp2 (g := upd gm 8 0) hd h0' 36 0 fu am (fun _ => 0) rfl (fu_gt (by omega)) hM' (fun j hj => by omega) (fun _ => by decide) (fun j u => by
    rw [Nat.zero_testBit]
    exact ⟨fun q => (by cases q), fun q => by omega⟩)
  obtain ⟨fn, A', n1, n2, n3⟩ := w117 (g := upd gm 8 0) (Init := InitP d V C (fun c => pl (cr c)) cv (fun c => tu (cr c))) hd h0' hV hM'.2.2.1 (36 * 9) fu (upA am 13 fm) Am (ms_le (B := 9) (A := Am) 36) (fu_gt (by omega)) (by rw [upA_s]; exact m2) (fun j u hu => ⟨((m3 j u).mp hu).1, ((m3 j u).mp hu).2.1⟩) (fun j u hu => (m3 j u).mp hu) (fun j u q => by
    obtain ⟨S, h1, h2⟩ := q
    have := (h1 j u h2).1
    exact ⟨this.1, (m3 j u).mpr this⟩)
  have hAA : A (6 * x + y) = A' (6 * x + y) := MXR_same x2 n3 (relP_xy hV hx hy hxy)
  refine Or.inl ⟨(nI (A (6 * x + y)), upA (upA a 39 f) 39 f'), (nI (A (6 * x + y)), upd gm 8 0, upA (upA am 13 fm) 13 fn), ?_, ?_, thr_8, rfl, Cpl_fr hC (Sm_A (Sm_A Sm_rfl (by decide)) (by decide)) (SmM_tr SmM_8 (SmM_of (P := []) (Q := [13]) (Sm_A (Sm_A Sm_rfl (by decide)) (by decide))))⟩
  · unfold f_X11_pairs
    rw [if_neg (yes x hx), if_neg (yes y hy), if_neg hne, x1, Option.bind_some]
  · rw [em]
    unfold f_X12_pairs_33
    rw [if_neg (by decide), if_neg hne]
    unfold f_X12_pairs_53
    have : f_X12_findsPairs (upd gm 8 0) am = some (upA (upA am 13 fm) 13 fn) := m1.trans n1
    rw [if_pos (le00 (by decide)), this, Option.bind_some]
    simp only [z6, pk_mul, nI_add]
    rw [ck_t (inB_t (by omega) (by decide)), nI_clamp (by omega), upA_s, n2 _ (by omega), hAA]
