/-! left: the model, and the call. -/
def Heldt (d : Nat) (P : Nat → Nat) (cv : Nat → Nat → Nat) (TC A : Nat → Nat) (c v u t : Nat) : Prop := Stn d (P c) (TC c) (cv c) t ∧ ∀ p, p < P c → (cv c p = v → dg d t p = u) ∧ (cv c p ≠ v → (A (cv c p)).testBit (dg d t p) = true)
theorem ih47 {d V C : Nat} {cr P : Nat → Nat} {cv : Nat → Nat → Nat} {TC A : Nat → Nat} {g : xG} {a : xA} (hd : d = 2 ∨ d = 3) (h0 : g 0 = nI d) (hI : InsM d V C cr P cv TC g a) (hA : ∀ v, v < V → a 12 v = nI (A v) ∧ A v < 8) {c v u t : Nat} (hc : c < C) (hv : v < 100) (hu : u < 100) (ht : t < d ^ P c) {K : Int32 → Int32 → Int32 → Int32 → Int32 → Int32 → Option Int32} :
    ∀ (r p n : Nat) (b0 : Bool), p + r = P c → r < n → ∃ b : Bool, f_X12_isHeld_47 g a K n (nI c) (nI v) (nI u) (if b0 then 1 else 0) (nI (cr c)) (nI t) (nI p) = K (nI c) (nI v) (nI u) (if b then 1 else 0) (nI (cr c)) (nI (t + 1)) ∧ (b = true ↔ b0 = true ∧ ∀ p', p ≤ p' → p' < P c → (cv c p' = v → dg d t p' = u) ∧ (cv c p' ≠ v → (A (cv c p')).testBit (dg d t p') = true))
  | 0, p, n, b0, hp, hn => by
    obtain ⟨n, rfl⟩ := pos_of hn
    obtain ⟨h1, h2, h3, h4, h5, h6, h7, h8⟩ := hI.2.2.2.2 c hc
    refine ⟨b0, ?_, fun q => ⟨q, fun p' h1 h2 => by omega⟩, fun q => q.1⟩
    rw [e_X12_isHeld_47, ck_t (inB_t (by omega) (by decide)), nI_clamp (by omega), h3, if_pos (nI_le (by omega) (by omega)), show nI t + 1 = nI (t + 1) from nI_1 t]
  | r + 1, p, n, b0, hp, hn => by
    obtain ⟨n, rfl⟩ := pos_of hn
    have hV := hI.1
    have hC := hI.2.1
    obtain ⟨h1, h2, h3, h4, h5, h6, h7, h8⟩ := hI.2.2.2.2 c hc
    have h9' := pw9 hd h7
    have v1 := h8 p (by omega)
    have hdg := dg_lt (d := d) (by omega) t p
    rw [e_X12_isHeld_47, ck_t (inB_t (by omega) (by decide)), nI_clamp (by omega), h3, if_neg (nI_ge (by omega) (by omega))]
    cases b0 with
    | false =>
      refine ⟨false, ?_, fun q => (by cases q), fun q => q.1⟩
      rw [if_pos (by decide), show nI t + 1 = nI (t + 1) from nI_1 t]
    | true =>
      have step : ∀ b1 : Bool, (b1 = true ↔ (cv c p = v → dg d t p = u) ∧ (cv c p ≠ v → (A (cv c p)).testBit (dg d t p) = true)) → ∃ b : Bool, f_X12_isHeld_47 g a K n (nI c) (nI v) (nI u) (if b1 then 1 else 0) (nI (cr c)) (nI t) (nI (p + 1)) = K (nI c) (nI v) (nI u) (if b then 1 else 0) (nI (cr c)) (nI (t + 1)) ∧ (b = true ↔ True ∧ ∀ p', p ≤ p' → p' < P c → (cv c p' = v → dg d t p' = u) ∧ (cv c p' ≠ v → (A (cv c p')).testBit (dg d t p') = true)) := fun b1 hb1 => by
        obtain ⟨b, e1, e2⟩ := ih47 hd h0 hI hA hc hv hu ht (K := K) r (p + 1) n b1 (by omega) (by omega)
        refine ⟨b, e1, e2.trans ⟨fun q2 => ⟨trivial, fun p' k1 k2 => ?_⟩, fun q2 => ⟨hb1.mpr (q2.2 p (Nat.le_refl _) (by omega)), fun p' k1 k2 => q2.2 p' (by omega) k2⟩⟩⟩
        by_cases he : p' = p
        · rw [he]
          exact hb1.mp q2.1
        · exact q2.2 p' (by omega) k2
      rw [if_neg (by decide)]
      simp only [z3, pk_mul, nI_add]
      rw [ck_t (inB_t (by omega) (by decide)), nI_clamp (by omega), v1.1, show nI p + 1 = nI (p + 1) from nI_1 p]
      by_cases e : cv c p = v
      · rw [if_pos (by rw [e]), onM hd (by omega) h0 (by omega), Option.bind_some]
        by_cases e2 : dg d t p = u
        · rw [if_pos (by rw [e2])]
          exact step true ⟨fun _ => ⟨fun _ => e2, fun k => absurd e k⟩, fun _ => rfl⟩
        · rw [if_neg (fun h => e2 ((nI_eqs (by omega) (by omega)).mp h))]
          exact step false ⟨fun k => (by cases k), fun k => absurd (k.1 e) e2⟩
      · obtain ⟨k1, k2⟩ := hA (cv c p) v1.2
        rw [if_neg (fun h => e ((nI_eqs (by omega) (by omega)).mp h)), ck_t (inB_t (by omega) (by decide)), onM hd (by omega) h0 (by omega), Option.bind_some, nI_clamp (by omega), k1, isInM (by omega) (by omega)]
        exact step _ ⟨fun q => ⟨fun k => absurd k e, fun _ => q⟩, fun q => q.2 e⟩
theorem ih14 {d V C : Nat} {cr P : Nat → Nat} {cv : Nat → Nat → Nat} {TC A : Nat → Nat} {g : xG} {a : xA} (hd : d = 2 ∨ d = 3) (h0 : g 0 = nI d) (hI : InsM d V C cr P cv TC g a) (hA : ∀ v, v < V → a 12 v = nI (A v) ∧ A v < 8) {c v u : Nat} (hc : c < C) (hv : v < 100) (hu : u < 100) :
    ∀ (r t n : Nat) (b0 : Bool), t + r = d ^ P c → r < n → ∃ b : Bool, f_X12_isHeld_14 g a n (nI c) (nI v) (nI u) (if b0 then 1 else 0) (nI (cr c)) (nI t) = some (if b then 1 else 0) ∧ (b = true ↔ b0 = true ∨ ∃ t', t ≤ t' ∧ Heldt d P cv TC A c v u t')
  | 0, t, n, b0, hp, hn => by
    obtain ⟨n, rfl⟩ := pos_of hn
    obtain ⟨h1, h2, h3, h4, h5, h6, h7, h8⟩ := hI.2.2.2.2 c hc
    have h9' := pw9 hd h7
    refine ⟨b0, ?_, fun q => Or.inl q, fun q => ?_⟩
    · rw [e_X12_isHeld_14, ck_t (inB_t (by omega) (by decide)), nI_clamp (by omega), h3, pwM (by omega) h0, Option.bind_some, if_pos (nI_le (by omega) (by omega)), ck_t]
      cases b0 <;> decide
    · rcases q with q | ⟨t', q1, q2⟩
      · exact q
      · have := q2.1.1
        omega
  | r + 1, t, n, b0, hp, hn => by
    obtain ⟨n, rfl⟩ := pos_of hn
    have hC := hI.2.1
    obtain ⟨h1, h2, h3, h4, h5, h6, h7, h8⟩ := hI.2.2.2.2 c hc
    have h9' := pw9 hd h7
    rw [e_X12_isHeld_14, ck_t (inB_t (by omega) (by decide)), nI_clamp (by omega), h3, pwM (by omega) h0, Option.bind_some, if_neg (nI_ge (by omega) (by omega))]
    cases b0 with
    | true =>
      refine ⟨true, ?_, fun _ => Or.inl rfl, fun _ => rfl⟩
      rw [if_neg (by decide), ck_t (by decide)]
    | false =>
      obtain ⟨b1, e1, e2⟩ := standM hd h0 hI hc (t := t) (by omega)
      obtain ⟨b2, e3, e4⟩ := ih47 hd h0 hI hA hc hv hu (t := t) (by omega) (K := f_X12_isHeld_14 g a n) (P c) 0 fu b1 (by omega) (fu_gt (by omega))
      obtain ⟨b, e5, e6⟩ := ih14 hd h0 hI hA hc hv hu r (t + 1) n b2 (by omega) (by omega)
      refine ⟨b, ?_, e6.trans ⟨fun q => Or.inr ?_, fun q => ?_⟩⟩
      · rw [if_pos (by decide), e1, Option.bind_some]
        exact e3.trans e5
      · rcases q with q | ⟨t', q1, q2⟩
        · obtain ⟨k1, k2⟩ := e4.mp q
          exact ⟨t, Nat.le_refl _, e2.mp k1, fun p hp => k2 p (Nat.zero_le _) hp⟩
        · exact ⟨t', by omega, q2⟩
      · rcases q with q | ⟨t', q1, q2⟩
        · cases q
        · by_cases he : t' = t
          · subst he
            exact Or.inl (e4.mpr ⟨e2.mpr q2.1, fun p _ hp => q2.2 p hp⟩)
          · exact Or.inr ⟨t', by omega, q2⟩
theorem heldM {d V C : Nat} {cr P : Nat → Nat} {cv : Nat → Nat → Nat} {TC A : Nat → Nat} {g : xG} {a : xA} (hd : d = 2 ∨ d = 3) (h0 : g 0 = nI d) (hI : InsM d V C cr P cv TC g a) (hA : ∀ v, v < V → a 12 v = nI (A v) ∧ A v < 8) {c v u : Nat} (hc : c < C) (hv : v < 100) (hu : u < 100) :
    ∃ b : Bool, f_X12_isHeld g a (nI c) (nI v) (nI u) = some (if b then 1 else 0) ∧ (b = true ↔ ∃ t', Heldt d P cv TC A c v u t') := by
  have hC := hI.2.1
  obtain ⟨h1, h2, h3, h4, h5, h6, h7, h8⟩ := hI.2.2.2.2 c hc
  have h9' := pw9 hd h7
  obtain ⟨b, e1, e2⟩ := ih14 hd h0 hI hA hc hv hu (d ^ P c) 0 fu false (by omega) (fu_gt (by omega))
  refine ⟨b, ?_, e2.trans ⟨fun q => ?_, fun ⟨t', q⟩ => Or.inr ⟨t', Nat.zero_le _, q⟩⟩⟩
  · unfold f_X12_isHeld
    rw [ck_t (inB_t (by omega) (by decide)), nI_clamp (by omega), h2]
    exact e1
  · rcases q with q | ⟨t', _, q⟩
    · cases q
    · exact ⟨t', q⟩
theorem cn5 {d V C : Nat} {cr P : Nat → Nat} {cv : Nat → Nat → Nat} {TC : Nat → Nat} {g : xG} {a : xA} (hd : d = 2 ∨ d = 3) (hI : InsM d V C cr P cv TC g a) {c v : Nat} (hc : c < C) (hv : v < 100) :
    ∀ (r p n : Nat) (b0 : Bool), p + r = P c → r < n → ∃ b : Bool, f_X12_concerns_5 g a n (nI c) (nI v) (if b0 then 1 else 0) (nI p) = some (if b then 1 else 0) ∧ (b = true ↔ b0 = true ∨ ∃ p', p ≤ p' ∧ p' < P c ∧ cv c p' = v)
  | 0, p, n, b0, hp, hn => by
    obtain ⟨n, rfl⟩ := pos_of hn
    have hC := hI.2.1
    obtain ⟨h1, h2, h3, h4, h5, h6, h7, h8⟩ := hI.2.2.2.2 c hc
    refine ⟨b0, ?_, fun q => Or.inl q, fun q => ?_⟩
    · rw [e_X12_concerns_5, ck_t (inB_t (by omega) (by decide)), nI_clamp (by omega), h2, ck_t (inB_t (by omega) (by decide)), nI_clamp (by omega), h3, if_pos (nI_le (by omega) (by omega)), ck_t]
      cases b0 <;> decide
    · rcases q with q | ⟨p', q1, q2, _⟩
      · exact q
      · omega
  | r + 1, p, n, b0, hp, hn => by
    obtain ⟨n, rfl⟩ := pos_of hn
    have hV := hI.1
    have hC := hI.2.1
    obtain ⟨h1, h2, h3, h4, h5, h6, h7, h8⟩ := hI.2.2.2.2 c hc
    have v1 := h8 p (by omega)
    have step : ∀ b1 : Bool, (b1 = true ↔ b0 = true ∨ cv c p = v) → ∃ b : Bool, f_X12_concerns_5 g a n (nI c) (nI v) (if b1 then 1 else 0) (nI (p + 1)) = some (if b then 1 else 0) ∧ (b = true ↔ b0 = true ∨ ∃ p', p ≤ p' ∧ p' < P c ∧ cv c p' = v) := fun b1 hb1 => by
      obtain ⟨b, e1, e2⟩ := cn5 hd hI hc hv r (p + 1) n b1 (by omega) (by omega)
      refine ⟨b, e1, e2.trans ⟨fun q => ?_, fun q => ?_⟩⟩
      · rcases q with q | ⟨p', q1, q2, q3⟩
        · rcases hb1.mp q with q | q
          · exact Or.inl q
          · exact Or.inr ⟨p, Nat.le_refl _, by omega, q⟩
        · exact Or.inr ⟨p', by omega, q2, q3⟩
      · rcases q with q | ⟨p', q1, q2, q3⟩
        · exact Or.inl (hb1.mpr (Or.inl q))
        · by_cases he : p' = p
          · exact Or.inl (hb1.mpr (Or.inr (he ▸ q3)))
          · exact Or.inr ⟨p', by omega, q2, q3⟩
    rw [e_X12_concerns_5, ck_t (inB_t (by omega) (by decide)), nI_clamp (by omega), h2, ck_t (inB_t (by omega) (by decide)), nI_clamp (by omega), h3, if_neg (nI_ge (by omega) (by omega)), show nI p + 1 = nI (p + 1) from nI_1 p]
    cases b0 with
    | true =>
      rw [if_neg (by decide)]
      exact step true ⟨fun _ => Or.inl rfl, fun _ => rfl⟩
    | false =>
      rw [if_pos (by decide)]
      simp only [z3, pk_mul, nI_add]
      rw [ck_t (inB_t (by omega) (by decide)), nI_clamp (by omega), v1.1]
      by_cases e : cv c p = v
      · rw [if_pos (by rw [e])]
        exact step true ⟨fun _ => Or.inr e, fun _ => rfl⟩
      · rw [if_neg (fun h => e ((nI_eqs (by omega) (by omega)).mp h))]
        exact step false ⟨fun k => (by cases k), fun k => by
          rcases k with k | k
          · exact k
          · exact absurd k e⟩
theorem concM {d V C : Nat} {cr P : Nat → Nat} {cv : Nat → Nat → Nat} {TC : Nat → Nat} {g : xG} {a : xA} (hd : d = 2 ∨ d = 3) (hI : InsM d V C cr P cv TC g a) {c v : Nat} (hc : c < C) (hv : v < 100) : ∃ b : Bool, f_X12_concerns g a (nI c) (nI v) = some (if b then 1 else 0) ∧ (b = true ↔ ∃ p', p' < P c ∧ cv c p' = v) := by
  obtain ⟨h1, h2, h3, h4, h5, h6, h7, h8⟩ := hI.2.2.2.2 c hc
  obtain ⟨b, e1, e2⟩ := cn5 hd hI hc hv (P c) 0 fu false (by omega) (fu_gt (by omega))
  refine ⟨b, e1, e2.trans ⟨fun q => ?_, fun ⟨p', q⟩ => Or.inr ⟨p', Nat.zero_le _, q⟩⟩⟩
  rcases q with q | ⟨t', _, q⟩
  · cases q
  · exact ⟨t', q⟩
def okM (d V C : Nat) (P : Nat → Nat) (cv : Nat → Nat → Nat) (TC A : Nat → Nat) (i : Nat) : Prop := (A (i / d % V)).testBit (i % d) = true → (∃ p', p' < P (i / d / V) ∧ cv (i / d / V) p' = i / d % V) → ∃ t', Heldt d P cv TC A (i / d / V) (i / d % V) (i % d) t'
def InvM (d V C : Nat) (P : Nat → Nat) (cv : Nat → Nat → Nat) (TC A0 A : Nat → Nat) (f : Nat → Int32) (fl i : Nat) : Prop := (∀ v, v < V → f v = nI (A v) ∧ A v < 8) ∧ (∀ v u, MX (InitL d V) (SupL d C P cv TC) v u → hs V A v u) ∧ (∀ v u, (A v).testBit u = true → (A0 v).testBit u = true) ∧ ((fl = 0 ∧ A = A0 ∧ ∀ i', i' < i → okM d V C P cv TC A0 i') ∨ (fl = 1 ∧ ms 3 A V < ms 3 A0 V))
theorem fl40 {d V C : Nat} {cr P : Nat → Nat} {cv : Nat → Nat → Nat} {TC A0 : Nat → Nat} {g : xG} (hd : d = 2 ∨ d = 3) (h0 : g 0 = nI d) (hV1 : 1 ≤ V) {K : xA → Int32 → Option xA} :
    ∀ (r i n : Nat) (a : xA) (A : Nat → Nat) (fl : Nat), i + r = C * V * d → r < n → InsM d V C cr P cv TC g a → InvM d V C P cv TC A0 A (a 12) fl i →
    ∃ f A' fl', f_X12_findsLeft_40 g K n a (nI fl) (nI i) = K (upA a 12 f) (nI fl') ∧ InvM d V C P cv TC A0 A' f fl' (C * V * d)
  | 0, i, n, a, A, fl, hi, hn, hI, hv => by
    obtain ⟨n, rfl⟩ := pos_of hn
    have e : i = C * V * d := by omega
    subst e
    refine ⟨a 12, A, fl, ?_, hv⟩
    rw [e_X12_findsLeft_40, hI.2.2.1, hI.2.2.2.1, h0, pk_mul, pk_mul, if_pos (by exact Int32.le_refl _), upA_id]
  | r + 1, i, n, a, A, fl, hi, hn, hI, hv => by
    obtain ⟨n, rfl⟩ := pos_of hn
    have hV := hI.1
    have hC := hI.2.1
    have hd0 : 0 < d := by omega
    have hcv : C * V ≤ 16 * 6 := Nat.mul_le_mul hC hV
    have hcvd : C * V * d ≤ 16 * 6 * 3 := Nat.mul_le_mul hcv (by omega)
    have hi2 : i < C * V * d := by omega
    have hid : i / d < C * V := by rw [Nat.div_lt_iff_lt_mul hd0]; exact hi2
    have hidV : i / d / V < C := by rw [Nat.div_lt_iff_lt_mul (by omega)]; exact hid
    have hvv : i / d % V < V := Nat.mod_lt _ (by omega)
    have huu : i % d < d := Nat.mod_lt _ hd0
    obtain ⟨c, hc⟩ : ∃ c, c = i / d / V := ⟨_, rfl⟩
    obtain ⟨v, hvE⟩ : ∃ v, v = i / d % V := ⟨_, rfl⟩
    obtain ⟨u, huE⟩ : ∃ u, u = i % d := ⟨_, rfl⟩
    rw [← hc] at hidV
    rw [← hvE] at hvv
    rw [← huE] at huu
    obtain ⟨k1, k2⟩ := hv.1 v hvv
    have e1 : nI i / nI d = nI (i / d) := pk_div (by omega) hd0 (by omega)
    have e2 : nI (i / d) - nI (i / d) / nI V * nI V = nI v := by rw [pk_rem (by omega) (by omega) (by omega), hvE]
    have e3 : nI i - nI (i / d) * nI d = nI u := by rw [rem_, huE]
    have e4 : nI (i / d) / nI V = nI c := by rw [pk_div (by omega) (by omega) (by omega), hc]
    have hfl : fl < 2 := by
      rcases hv.2.2.2 with ⟨q, _⟩ | ⟨q, _⟩ <;> omega
    have same : (fl = 0 → okM d V C P cv TC A i) → ∃ f A' fl', f_X12_findsLeft_40 g K n a (nI fl) (nI (i + 1)) = K (upA a 12 f) (nI fl') ∧ InvM d V C P cv TC A0 A' f fl' (C * V * d) := fun hok => by
      refine fl40 hd h0 hV1 r (i + 1) n a A fl (by omega) (by omega) hI ⟨hv.1, hv.2.1, hv.2.2.1, ?_⟩
      rcases hv.2.2.2 with ⟨q1, q2, q3⟩ | q
      · refine Or.inl ⟨q1, q2, fun i' hi' => ?_⟩
        by_cases he : i' = i
        · rw [he, ← q2]
          exact hok q1
        · exact q3 i' (by omega)
      · exact Or.inr q
    rw [e_X12_findsLeft_40, hI.2.2.1, hI.2.2.2.1, h0, pk_mul, pk_mul, if_neg (nI_ge hi2 (by omega)), e1, e2, e3, e4, show nI i + 1 = nI (i + 1) from nI_1 i, ck_t (nzB_t hd0 (by omega)), ck_t (nzB_t (by omega) (by omega)), ck_t (nzB_t hd0 (by omega)), ck_t (nzB_t (by omega) (by omega)), ck_t (nzB_t hd0 (by omega)), ck_t (inB_t (by omega) (by decide)), nI_clamp (by omega), k1, isInM (by omega) (by omega)]
    cases hb : (A v).testBit u with
    | false =>
      rw [if_pos (by decide)]
      exact same (fun _ q => by
        rw [← hvE, ← huE, hb] at q
        cases q)
    | true =>
      obtain ⟨b1, s1, s2⟩ := concM hd hI hidV (v := v) (by omega)
      rw [if_neg (by decide), s1, Option.bind_some]
      cases hb1 : b1 with
      | false =>
        rw [if_pos (by decide)]
        exact same (fun _ _ q => by
          rw [← hvE, ← hc] at q
          rw [s2.mpr q] at hb1
          cases hb1)
      | true =>
        obtain ⟨b2, s3, s4⟩ := heldM hd h0 hI hv.1 hidV (v := v) (u := u) (by omega) (by omega)
        rw [if_neg (by decide), s3, Option.bind_some]
        cases hb2 : b2 with
        | true =>
          rw [if_neg (by decide)]
          exact same (fun _ _ _ => by
            rw [← hvE, ← hc, ← huE]
            exact s4.mp hb2)
        | false =>
          rw [if_pos (by decide), ck_t (inB_t (by omega) (by decide)), ck_t (inB_t (by omega) (by decide)), shl_nI (by omega), nI_diff]
          have hno : ¬ ∃ t', Heldt d P cv TC A c v u t' := fun q => by
            rw [s4.mpr q] at hb2
            cases hb2
          have hsub : ∀ j, (bdiff (A v) (2 ^ u)).testBit j = true → (A v).testBit j = true := fun j hj => by
            rw [bdiff_bit, Bool.and_eq_true] at hj
            exact hj.1
          have hux : (bdiff (A v) (2 ^ u)).testBit u = false := by
            rw [bdiff_bit, Nat.testBit_two_pow_self]
            simp
          have ih := fl40 (A0 := A0) hd h0 hV1 (K := K) r (i + 1) n (upA a 12 (upd (a 12) v (nI (bdiff (A v) (2 ^ u))))) (fun j => if j = v then bdiff (A v) (2 ^ u) else A j) 1 (by omega) (by omega) (InsM_fr hI rfl rfl (upA_n _ _ (by decide)) (upA_n _ _ (by decide)) (upA_n _ _ (by decide)) (upA_n _ _ (by decide))) ⟨fun w hw => ?_, ?_, fun w x hx => ?_, Or.inr ⟨rfl, ?_⟩⟩
          · obtain ⟨f, A', fl', q1, q2⟩ := ih
            rw [upA_2] at q1
            exact ⟨f, A', fl', q1, q2⟩
          · rw [upA_s]
            dsimp only
            by_cases he : w = v
            · rw [if_pos he, he, upd_s]
              exact ⟨rfl, bdiff_le (n := 3) _ _ k2⟩
            · rw [if_neg he, upd_n _ _ he]
              exact hv.1 w hw
          · refine MX_keep SupL_mono hv.2.1 (fun k x q1 q2 => ⟨q1.1, ?_⟩)
            dsimp only
            by_cases he : k = v
            · rw [if_pos he, bdiff_bit, Bool.and_eq_true]
              refine ⟨he ▸ q1.2, ?_⟩
              rw [Nat.testBit_two_pow]
              by_cases hx : u = x
              · exfalso
                rw [he, ← hx] at q2
                obtain ⟨t, t1, t2⟩ := q2 c hidV (s2.mp hb1)
                exact hno ⟨t, t1, fun p hp => ⟨(t2 p hp).1, fun q => ((t2 p hp).2 q).2⟩⟩
              · simp [hx]
            · rw [if_neg he]
              exact q1.2
          · dsimp only at hx
            by_cases he : w = v
            · rw [if_pos he] at hx
              rw [he]
              exact hv.2.2.1 _ _ (hsub x hx)
            · rw [if_neg he] at hx
              exact hv.2.2.1 _ _ hx
          · have := ms_lt (A := A) (k := v) (B := 3) hsub hux hb (by omega) V hvv
            rcases hv.2.2.2 with ⟨_, q2, _⟩ | ⟨_, q⟩
            · rw [q2] at this ⊢
              exact this
            · omega
theorem fl32 {d V C : Nat} {cr P : Nat → Nat} {cv : Nat → Nat → Nat} {TC : Nat → Nat} {g : xG} (hd : d = 2 ∨ d = 3) (h0 : g 0 = nI d) (hV1 : 1 ≤ V) :
    ∀ (m n : Nat) (a : xA) (A : Nat → Nat), ms 3 A V ≤ m → m + 1 < n → InsM d V C cr P cv TC g a → (∀ v, v < V → a 12 v = nI (A v) ∧ A v < 8) → (∀ v u, (A v).testBit u = true → u < d) → (∀ v u, MX (InitL d V) (SupL d C P cv TC) v u → hs V A v u) →
    ∃ f A', f_X12_findsLeft_32 g n a 1 = some (upA a 12 f) ∧ (∀ v, v < V → f v = nI (A' v)) ∧ ∀ k u, hs V A' k u ↔ MX (InitL d V) (SupL d C P cv TC) k u := by
  intro m
  induction m with
  | zero =>
    intro n a A hms hn hI ha hD hm
    obtain ⟨n, rfl⟩ := pos_of hn
    have hV := hI.1
    have hC := hI.2.1
    have hcv : C * V ≤ 16 * 6 := Nat.mul_le_mul hC hV
    have hcvd : C * V * d ≤ 16 * 6 * 3 := Nat.mul_le_mul hcv (by omega)
    obtain ⟨f, A1, fl, e1, e2⟩ := fl40 (A0 := A) hd h0 hV1 (K := f_X12_findsLeft_32 g n) (C * V * d) 0 fu a A 0 (by omega) (fu_gt (by omega)) hI ⟨ha, hm, fun _ _ h => h, Or.inl ⟨rfl, rfl, fun i h => by omega⟩⟩
    rcases e2.2.2.2 with ⟨q1, q2, q3⟩ | ⟨q1, q2⟩
    · obtain ⟨n, rfl⟩ : ∃ n', n = n' + 1 := ⟨n - 1, by omega⟩
      refine ⟨f, A1, ?_, fun v hv => (e2.1 v hv).1, fun k u => MX_eq (fun k u hk => ⟨⟨hk.1, hD k u (q2 ▸ hk.2)⟩, fun c hc hp => ?_⟩) e2.2.1 k u⟩
      · rw [e_X12_findsLeft_32, if_neg (by decide)]
        refine Eq.trans e1 ?_
        rw [q1, e_X12_findsLeft_32, if_pos (show nI 0 = 0 from rfl)]
      · rw [q2] at hk ⊢
        have hud := hD k u hk.2
        have hkV := hk.1
        have hlt : (c * V + k) * d + u < C * V * d := by
          have h1 : c * V + k < C * V := by
            have : (c + 1) * V ≤ C * V := Nat.mul_le_mul_right _ hc
            rw [Nat.add_mul, Nat.one_mul] at this
            omega
          have h2 : (c * V + k + 1) * d ≤ C * V * d := Nat.mul_le_mul_right _ h1
          rw [Nat.add_mul, Nat.one_mul] at h2
          omega
        have i1 : ((c * V + k) * d + u) / d = c * V + k := by
          rw [Nat.mul_comm, Nat.mul_add_div (by omega), Nat.div_eq_of_lt hud, Nat.add_zero]
        have i2 : ((c * V + k) * d + u) % d = u := by
          rw [Nat.mul_comm, Nat.mul_add_mod, Nat.mod_eq_of_lt hud]
        have i3 : (c * V + k) / V = c := by
          rw [Nat.mul_comm, Nat.mul_add_div (by omega), Nat.div_eq_of_lt hkV, Nat.add_zero]
        have i4 : (c * V + k) % V = k := by
          rw [Nat.mul_comm, Nat.mul_add_mod, Nat.mod_eq_of_lt hkV]
        have := q3 _ hlt
        unfold okM at this
        rw [i1, i2, i3, i4] at this
        obtain ⟨t, t1, t2⟩ := this hk.2 hp
        exact ⟨t, t1, fun p hp => ⟨(t2 p hp).1, fun q => ⟨((hI.2.2.2.2 c hc).2.2.2.2.2.2.2 p hp).2, (t2 p hp).2 q⟩⟩⟩
    · omega
  | succ m ih =>
    intro n a A hms hn hI ha hD hm
    obtain ⟨n, rfl⟩ := pos_of hn
    have hV := hI.1
    have hC := hI.2.1
    have hcv : C * V ≤ 16 * 6 := Nat.mul_le_mul hC hV
    have hcvd : C * V * d ≤ 16 * 6 * 3 := Nat.mul_le_mul hcv (by omega)
    obtain ⟨f, A1, fl, e1, e2⟩ := fl40 (A0 := A) hd h0 hV1 (K := f_X12_findsLeft_32 g n) (C * V * d) 0 fu a A 0 (by omega) (fu_gt (by omega)) hI ⟨ha, hm, fun _ _ h => h, Or.inl ⟨rfl, rfl, fun i h => by omega⟩⟩
    rcases e2.2.2.2 with ⟨q1, q2, q3⟩ | ⟨q1, q2⟩
    · obtain ⟨n, rfl⟩ : ∃ n', n = n' + 1 := ⟨n - 1, by omega⟩
      refine ⟨f, A1, ?_, fun v hv => (e2.1 v hv).1, fun k u => MX_eq (fun k u hk => ⟨⟨hk.1, hD k u (q2 ▸ hk.2)⟩, fun c hc hp => ?_⟩) e2.2.1 k u⟩
      · rw [e_X12_findsLeft_32, if_neg (by decide)]
        refine Eq.trans e1 ?_
        rw [q1, e_X12_findsLeft_32, if_pos (show nI 0 = 0 from rfl)]
      · rw [q2] at hk ⊢
        have hud := hD k u hk.2
        have hkV := hk.1
        have hlt : (c * V + k) * d + u < C * V * d := by
          have h1 : c * V + k < C * V := by
            have : (c + 1) * V ≤ C * V := Nat.mul_le_mul_right _ hc
            rw [Nat.add_mul, Nat.one_mul] at this
            omega
          have h2 : (c * V + k + 1) * d ≤ C * V * d := Nat.mul_le_mul_right _ h1
          rw [Nat.add_mul, Nat.one_mul] at h2
          omega
        have i1 : ((c * V + k) * d + u) / d = c * V + k := by
          rw [Nat.mul_comm, Nat.mul_add_div (by omega), Nat.div_eq_of_lt hud, Nat.add_zero]
        have i2 : ((c * V + k) * d + u) % d = u := by
          rw [Nat.mul_comm, Nat.mul_add_mod, Nat.mod_eq_of_lt hud]
        have i3 : (c * V + k) / V = c := by
          rw [Nat.mul_comm, Nat.mul_add_div (by omega), Nat.div_eq_of_lt hkV, Nat.add_zero]
        have i4 : (c * V + k) % V = k := by
          rw [Nat.mul_comm, Nat.mul_add_mod, Nat.mod_eq_of_lt hkV]
        have := q3 _ hlt
        unfold okM at this
        rw [i1, i2, i3, i4] at this
        obtain ⟨t, t1, t2⟩ := this hk.2 hp
        exact ⟨t, t1, fun p hp => ⟨(t2 p hp).1, fun q => ⟨((hI.2.2.2.2 c hc).2.2.2.2.2.2.2 p hp).2, (t2 p hp).2 q⟩⟩⟩
    · obtain ⟨f2, A2, e3, e4, e5⟩ := ih n (upA a 12 f) A1 (by omega) (by omega) (InsM_fr hI rfl rfl (upA_n _ _ (by decide)) (upA_n _ _ (by decide)) (upA_n _ _ (by decide)) (upA_n _ _ (by decide))) (by rw [upA_s]; exact e2.1) (fun v u hu => hD v u (e2.2.2.1 v u hu)) e2.2.1
      rw [upA_2] at e3
      refine ⟨f2, A2, ?_, e4, e5⟩
      rw [e_X12_findsLeft_32, if_neg (by decide)]
      refine Eq.trans e1 ?_
      rw [q1]
      exact e3
theorem fl2 {d V : Nat} {g : xG} (hd : d = 2 ∨ d = 3) (h0 : g 0 = nI d) (hg : g 6 = nI V) (hV : V ≤ 6) : ∀ (r p n : Nat) (a : xA), p + r = V → r < n → (∀ v, v < p → a 12 v = nI (2 ^ d - 1)) →
    ∃ f, f_X12_findsLeft_2 g n a (nI p) = f_X12_findsLeft_32 g fu (upA a 12 f) 1 ∧ ∀ v, v < V → f v = nI (2 ^ d - 1)
  | 0, p, n, a, hp, hn, h => by
    obtain ⟨n, rfl⟩ := pos_of hn
    refine ⟨a 12, ?_, fun v hv => h v (by omega)⟩
    rw [e_X12_findsLeft_2, hg, if_pos (nI_le (by omega) (by omega)), upA_id]
  | r + 1, p, n, a, hp, hn, h => by
    obtain ⟨n, rfl⟩ := pos_of hn
    obtain ⟨f, e1, e2⟩ := fl2 hd h0 hg hV r (p + 1) n (upA a 12 (upd (a 12) p (nI (2 ^ d - 1)))) (by omega) (by omega) (fun v hv => by
      rw [upA_s]
      by_cases he : v = p
      · rw [he, upd_s]
      · rw [upd_n _ _ he]
        exact h v (by omega))
    refine ⟨f, ?_, e2⟩
    rw [upA_2] at e1
    have es : ((1 : Int32) <<< (nI d &&& 31)) - 1 = nI (2 ^ d - 1) := by
      rcases hd with rfl | rfl <;> decide
    rw [e_X12_findsLeft_2, hg, if_neg (nI_ge (by omega) (by omega)), ck_t (inB_t (by omega) (by decide)), nI_clamp (by omega), h0, es, show nI p + 1 = nI (p + 1) from nI_1 p]
    exact e1
theorem ob1_left : ob_left Cpl := by
  intro g a gm am v1 h
  have hC := h
  obtain ⟨d, R, K, T, V, C, pl, tu, ar, ch, cr, an, cv, hB, h0, hR, hK, hT, hI⟩ := h
  have hd := hB.1
  have hX := Ins_of hR hI
  have hM := InsM_of hR hI
  have hV := hI.2.1
  have hg14 : g (12 + 2 * 1) = nI V := hI.2.2.2.1
  have hm6 : gm 6 = nI V := hI.2.2.2.2.1
  rcases ix3 v1 (R := V) (by omega) with ⟨q1, q2⟩ | ⟨v, hv, rfl⟩
  · refine Or.inr ⟨(3, a), (0, upd gm 8 1, am), ?_, rfl, ?_, thr_8, Cpl_8 hC⟩
    · have : t_X2_isThere 1 g a v1 = 0 := by
        unfold t_X2_isThere
        rw [hg14]
        by_cases h2 : v1 < 0
        · rw [if_pos h2]
        · rw [if_neg h2, if_pos (q1.resolve_left h2)]
      unfold f_X11_left
      rw [if_pos this]
    · unfold f_X12_left
      rw [hm6, if_pos (inR_0 q2)]
      unfold f_X12_left_20
      rw [if_neg (by rw [upd_s]; decide)]
  have hth : ¬ t_X2_isThere 1 g a (nI v) = 0 := by
    unfold t_X2_isThere
    rw [hg14, if_neg (nI_pos (by omega)), if_neg (nI_ge hv (by omega))]
    decide
  obtain ⟨f, f', A, x1, x2⟩ := leftX hv hB hX
  have hM' : InsM d V C cr (fun c => pl (cr c)) cv (fun c => tu (cr c)) (upd gm 8 0) am := InsM_fr hM (upd_n _ _ (by decide)) (upd_n _ _ (by decide)) rfl rfl rfl rfl
  have h0' : upd gm 8 0 0 = nI d := (upd_n _ _ (by decide)).trans h0
  obtain ⟨fm, m1, m2⟩ := fl2 (g := upd gm 8 0) hd h0' hM'.2.2.1 hV V 0 fu am (by omega) (fu_gt (by omega)) (fun v hv => by omega)
  have hd8 : 2 ^ d - 1 < 8 := by rcases hd with rfl | rfl <;> decide
  obtain ⟨fn, A', n1, n2, n3⟩ := fl32 (g := upd gm 8 0) hd h0' hI.1 18 fu (upA am 12 fm) (fun _ => 2 ^ d - 1) (by
    have := ms_le (B := 3) (A := fun _ => 2 ^ d - 1) V
    omega) (fu_gt (by omega)) (InsM_fr hM' rfl rfl (upA_n _ _ (by decide)) (upA_n _ _ (by decide)) (upA_n _ _ (by decide)) (upA_n _ _ (by decide))) (fun v hv => by
    rw [upA_s]
    exact ⟨m2 v hv, hd8⟩) (fun v u hu => by
    rw [Nat.testBit_two_pow_sub_one] at hu
    exact of_decide_eq_true hu) (fun v u q => by
    obtain ⟨S, h1, h2⟩ := q
    obtain ⟨⟨k1, k2⟩, _⟩ := h1 v u h2
    exact ⟨k1, all_bit k2⟩)
  have hAA : A v = A' v := MX_same x2 n3 hv
  refine Or.inl ⟨(nI (A v), upA (upA a 36 f) 36 f'), (nI (A v), upd gm 8 0, upA (upA am 12 fm) 12 fn), ?_, ?_, thr_8, rfl, Cpl_fr hC (Sm_A (Sm_A Sm_rfl (by decide)) (by decide)) (SmM_tr SmM_8 (SmM_of (P := []) (Q := [12]) (Sm_A (Sm_A Sm_rfl (by decide)) (by decide))))⟩
  · unfold f_X11_left
    rw [if_neg hth, x1, Option.bind_some]
  · unfold f_X12_left
    rw [hm6, if_neg (by rw [inR_1 hv (by omega)]; decide)]
    unfold f_X12_left_20
    rw [if_pos (le00 (by decide))]
    have : f_X12_findsLeft (upd gm 8 0) am = some (upA (upA am 12 fm) 12 fn) := m1.trans n1
    rw [this, Option.bind_some, ck_t (inB_t (by omega) (by decide)), nI_clamp (by omega), upA_s, n2 v hv, hAA]
