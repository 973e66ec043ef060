/-! What is typed, read: the signs, and the head. -/
def plx (pl : Nat → Nat) (r : Nat) : Nat := if r = 8 then 2 else pl r
def tux (d : Nat) (tu : Nat → Nat) (r : Nat) : Nat := if r = 8 then eqm d else tu r
def PZ (d R T : Nat) (pl tu ch : Nat → Nat) (g : xG) (a : xA) (gm : xG) (am : xA) : Prop := (d = 2 ∨ d = 3) ∧ R ≤ 8 ∧ T ≤ 60 ∧ g 0 = nI d ∧ g 1 = nI R ∧ g 6 = nI T ∧ gm 0 = nI d ∧ gm 1 = nI R ∧ gm 3 = nI T ∧ (∀ i, i < T → a 20 i = nI (ch i) ∧ am 5 i = nI (ch i) ∧ sgn (ch i)) ∧ (∀ r, r < R ∨ r = 8 → a 5 r = nI (plx pl r) ∧ a 6 r = nI (tux d tu r) ∧ 1 ≤ plx pl r ∧ plx pl r + d ≤ 5 ∧ tux d tu r < 2 ^ (d ^ plx pl r)) ∧ (∀ r, r < R → am 1 r = nI (pl r))
theorem PZ_of {d R T : Nat} {pl tu ch : Nat → Nat} {g : xG} {a : xA} {gm : xG} {am : xA} (hB : Bas d g a) (h0 : gm 0 = nI d) (hR : CR d R pl tu g a gm am) (hT : CT T ch g a gm am) : PZ d R T pl tu ch g a gm am := by
  refine ⟨hB.1, hR.1, hT.1, hB.2.1, hR.2.1, hT.2.1, h0, hR.2.2.1, hT.2.2.1, hT.2.2.2, fun r hr => ?_, fun r hr => (hR.2.2.2.2.2 r hr).2.1⟩
  have hR8 := hR.1
  by_cases h8 : r = 8
  · subst h8
    refine ⟨hR.2.2.2.1, hR.2.2.2.2.1, show 1 ≤ 2 by decide, ?_, ?_⟩
    · show 2 + d ≤ 5
      have := hB.1
      omega
    · show eqm d < 2 ^ (d ^ 2)
      rcases hB.1 with rfl | rfl <;> decide
  · obtain ⟨r1, r2, r3, r4, r5, r6, r7⟩ := hR.2.2.2.2.2 r (by omega)
    unfold plx tux
    rw [if_neg h8, if_neg h8]
    exact ⟨r1, r3, r5, r6, r7⟩
theorem PZ_fr {d R T : Nat} {pl tu ch : Nat → Nat} {g g' : xG} {a a' : xA} {gm gm' : xG} {am am' : xA} (h : PZ d R T pl tu ch g a gm am) (s : Sm PX QX g a g' a') (m : SmM gm am gm' am') : PZ d R T pl tu ch g' a' gm' am' := by
  unfold PZ at *
  rw [s.1 0 (by decide), s.1 1 (by decide), s.1 6 (by decide), s.2 20 (by decide), s.2 5 (by decide), s.2 6 (by decide), m.1 0 (by decide), m.1 1 (by decide), m.1 3 (by decide), m.2.1 5 (by decide) (by decide), m.2.1 1 (by decide) (by decide)]
  exact h
theorem va256 : ∀ n, n < 256 → (t_X9_isVariable g0X a0X (nI n) = 1 ∧ t_X12_in g0M a0M (nI n) 97 102 = 1 ∧ 97 ≤ n ∧ n - 97 < 6 ∧ nI n - 97 = nI (n - 97)) ∨ (t_X9_isVariable g0X a0X (nI n) = 0 ∧ t_X12_in g0M a0M (nI n) 97 102 = 0 ∧ (n < 97 ∨ 102 < n)) := by decide +kernel
theorem vaK (g : xG) (a : xA) (gm : xG) (am : xA) {n : Nat} (hn : n < 256) : (t_X9_isVariable g a (nI n) = 1 ∧ t_X12_in gm am (nI n) 97 102 = 1 ∧ 97 ≤ n ∧ n - 97 < 6 ∧ nI n - 97 = nI (n - 97)) ∨ (t_X9_isVariable g a (nI n) = 0 ∧ t_X12_in gm am (nI n) 97 102 = 0 ∧ (n < 97 ∨ 102 < n)) := va256 n hn
theorem sgn_lt {c : Nat} (h : sgn c) : c < 256 := by unfold sgn at h; omega
section
variable {d R T : Nat} {pl tu ch : Nat → Nat} {g : xG} {a : xA} {gm : xG} {am : xA}
theorem sg_X (h : PZ d R T pl tu ch g a gm am) {p : Nat} (hp : p < T) : f_X9_signAt g a (nI p) = some (nI (ch p)) := by
  have hT := h.2.2.1
  obtain ⟨c1, _, c3⟩ := h.2.2.2.2.2.2.2.2.2.1 p hp
  unfold f_X9_signAt
  rw [if_neg (nI_pos (by omega)), if_neg (show ¬ (60 : Int32) ≤ nI p from nI_ge (a := p) (b := 60) (by omega) (by decide)), ck_t (inB_t (by omega) (by decide)), nI_clamp (by omega), c1, ck_t (ch256 _ (sgn_lt c3)).1]
theorem sg_M (h : PZ d R T pl tu ch g a gm am) {p : Nat} (hp : p < T) : f_X12_signAt gm am (nI p) = some (nI (ch p)) := by
  have hT := h.2.2.1
  obtain ⟨_, c2, c3⟩ := h.2.2.2.2.2.2.2.2.2.1 p hp
  unfold f_X12_signAt
  rw [h.2.2.2.2.2.2.2.2.1, if_neg (nI_ge hp (by omega)), ck_t (inB_t (by omega) (by decide)), nI_clamp (by omega), c2]
theorem sg_T (h : PZ d R T pl tu ch g a gm am) : f_X12_signAt gm am (nI T) = some 0 := by
  unfold f_X12_signAt
  rw [h.2.2.2.2.2.2.2.2.1, if_pos (nI_le (Nat.le_refl _) (by have := h.2.2.1; omega))]
theorem vr_M (h : PZ d R T pl tu ch g a gm am) {p : Nat} (hp : p < T) : f_X12_isVariable gm am (nI p) = some (t_X12_in gm am (nI (ch p)) 97 102) := by
  have c3 := (h.2.2.2.2.2.2.2.2.2.1 p hp).2.2
  unfold f_X12_isVariable
  rw [sg_M h hp, Option.bind_some, ck_t]
  rcases vaK g a gm am (sgn_lt c3) with ⟨_, e, _⟩ | ⟨_, e, _⟩ <;> rw [e] <;> decide
theorem vr_T (h : PZ d R T pl tu ch g a gm am) : f_X12_isVariable gm am (nI T) = some 0 := by
  unfold f_X12_isVariable
  have e : t_X12_in gm am 0 97 102 = 0 := in_0 (Or.inl (by decide))
  rw [sg_T h, Option.bind_some, e, ck_t (by decide)]
theorem rd_step (h : PZ d R T pl tu ch g a gm am) {p : Nat} (hp : p < T) (n : Nat) : f_X1_read_21 (n + 1) g a (nI p) = Option.bind (f_X1_takes g a (nI (ch p))) (fun u5 => if u5.1 = 0 then some (nI p, u5.2.1, u5.2.2) else f_X1_read_21 n u5.2.1 u5.2.2 (nI (p + 1))) := by
  rw [e_X1_read_21, h.2.2.2.2.2.1, if_neg (nI_ge hp (by have := h.2.2.1; omega)), sg_X h hp, Option.bind_some, nI_1]
theorem rd_end (h : PZ d R T pl tu ch g a gm am) {s : Nat} (h8 : g 8 = nI s) (hs : s < 8) (n : Nat) : f_X1_read_21 (n + 1) g a (nI T) = if s = 7 then some (-1, g, a) else some (nI T, g, a) := by
  rw [e_X1_read_21, h.2.2.2.2.2.1, if_pos (nI_le (Nat.le_refl _) (by have := h.2.2.1; omega)), h8]
  by_cases e : s = 7
  · rw [if_pos e, e, if_pos (show nI 7 = 7 from rfl)]
  · rw [if_neg e, if_neg (show ¬ nI s = 7 from fun q => e ((nI_eqs (y := 7) (by omega) (by decide)).mp q))]
theorem tk_just {s x y : Nat} (h : (s = 2 ∧ x = 61 ∧ y = 4) ∨ (s = 3 ∧ x = 40 ∧ y = 4) ∨ (s = 5 ∧ x = 44 ∧ y = 4) ∨ (s = 6 ∧ x = 41 ∧ y = 7) ∨ (s = 7 ∧ x = 38 ∧ y = 1)) (h8 : g 8 = nI s) {c : Nat} (hc : c < 256) : f_X1_takes g a (nI c) = some (if c = x then 1 else 0, upd g 8 (nI y), a) := by
  have e : ∀ k : Nat, k < 256 → t_X1_takesJust g a (nI k) (nI c) (nI y) = (if c = k then 1 else 0, upd g 8 (nI y)) := fun k hk => by
    unfold t_X1_takesJust
    by_cases q : c = k
    · rw [if_pos q, if_pos (by rw [q])]
    · rw [if_neg q, if_neg (fun z => q ((nI_eq (by omega) (by omega)).mp z))]
  have b : boB (if c = x then (1 : Int32) else 0) = true := by split <;> decide
  unfold f_X1_takes
  rcases h with ⟨rfl, rfl, rfl⟩ | ⟨rfl, rfl, rfl⟩ | ⟨rfl, rfl, rfl⟩ | ⟨rfl, rfl, rfl⟩ | ⟨rfl, rfl, rfl⟩
  · rw [h8, if_neg (by decide), if_neg (by decide), if_pos (show nI 2 = 2 from rfl), show t_X1_takesJust g a 61 (nI c) 4 = _ from e 61 (by decide), ck_t b]
  · rw [h8, if_neg (by decide), if_neg (by decide), if_neg (by decide), if_pos (show nI 3 = 3 from rfl), show t_X1_takesJust g a 40 (nI c) 4 = _ from e 40 (by decide), ck_t b]
  · rw [h8, if_neg (by decide), if_neg (by decide), if_neg (by decide), if_neg (by decide), if_neg (by decide), if_pos (show nI 5 = 5 from rfl), show t_X1_takesJust g a 44 (nI c) 4 = _ from e 44 (by decide), ck_t b]
  · rw [h8, if_neg (by decide), if_neg (by decide), if_neg (by decide), if_neg (by decide), if_neg (by decide), if_neg (by decide), if_pos (show nI 6 = 6 from rfl), show t_X1_takesJust g a 41 (nI c) 7 = _ from e 41 (by decide), ck_t b]
  · rw [h8, if_neg (by decide), if_neg (by decide), if_neg (by decide), if_neg (by decide), if_neg (by decide), if_neg (by decide), if_neg (by decide), show t_X1_takesJust g a 38 (nI c) 1 = _ from e 38 (by decide), ck_t b]
theorem rd_just (hP : PZ d R T pl tu ch g a gm am) {p s x y : Nat} (hp : p < T) (h : (s = 2 ∧ x = 61 ∧ y = 4) ∨ (s = 3 ∧ x = 40 ∧ y = 4) ∨ (s = 5 ∧ x = 44 ∧ y = 4) ∨ (s = 6 ∧ x = 41 ∧ y = 7) ∨ (s = 7 ∧ x = 38 ∧ y = 1)) (h8 : g 8 = nI s) (n : Nat) : f_X1_read_21 (n + 1) g a (nI p) = if ch p = x then f_X1_read_21 n (upd g 8 (nI y)) a (nI (p + 1)) else some (nI p, upd g 8 (nI y), a) := by
  rw [rd_step hP hp, tk_just h h8 (sgn_lt (hP.2.2.2.2.2.2.2.2.2.1 p hp).2.2), Option.bind_some]
  by_cases q : ch p = x
  · simp only [if_pos q]
    rw [if_neg (by decide)]
  · simp only [if_neg q]
    rw [if_pos True.intro]
end
theorem hd_X {k x d : Nat} {hd : Nat → Nat} {g : xG} {a : xA} (hk : k + d ≤ 5) (hd2 : d = 2 ∨ d = 3) (h0 : g 0 = nI d) (h7 : g 7 = nI k) (h22 : ∀ i, i < k → a 22 i = nI (hd i) ∧ hd i < 6) (hx : x < 6) :
    ∀ (r i n : Nat), i + r = k → r < n → ((∃ j, i ≤ j ∧ j < k ∧ hd j = x) ∧ f_X1_takesInHead_38 n g a (nI x) (nI i) = some (0, g, a)) ∨ ((∀ j, i ≤ j → j < k → hd j ≠ x) ∧ f_X1_takesInHead_38 n g a (nI x) (nI i) = if k + d < 5 then some (1, upd g 7 (nI (k + 1)), upA a 22 (upd (a 22) k (nI x))) else some (0, g, a))
  | 0, i, n, hi, hn => by
    obtain ⟨n, rfl⟩ := pos_of hn
    refine Or.inr ⟨fun j h1 h2 => by omega, ?_⟩
    have hw : t_X4_widest g a = nI (5 - d) := by
      unfold t_X4_widest
      rw [h0]
      rcases hd2 with rfl | rfl
      · rw [if_pos (show nI 2 = 2 from rfl)]
        rfl
      · rw [if_neg (show ¬ nI 3 = 2 by decide)]
        rfl
    rw [e_X1_takesInHead_38, h7, if_pos (nI_le (by omega) (by omega)), hw]
    by_cases q : k + d < 5
    · rw [if_pos q, if_pos (nI_lt (by omega) (by omega)), nI_1, put_in (by omega) (by decide)]
    · rw [if_neg q, if_neg (nI_nlt (by omega) (by omega))]
  | r + 1, i, n, hi, hn => by
    obtain ⟨n, rfl⟩ := pos_of hn
    obtain ⟨c1, c2⟩ := h22 i (by omega)
    rw [e_X1_takesInHead_38, h7, if_neg (nI_ge (by omega) (by omega)), at_in (by omega) (by decide), c1, nI_1]
    by_cases q : hd i = x
    · rw [if_pos (by rw [q])]
      exact Or.inl ⟨⟨i, Nat.le_refl _, by omega, q⟩, rfl⟩
    · rw [if_neg (fun z => q ((nI_eqs (by omega) (by omega)).mp z))]
      rcases hd_X hk hd2 h0 h7 h22 hx r (i + 1) n (by omega) (by omega) with ⟨⟨j, j1, j2⟩, e⟩ | ⟨e1, e2⟩
      · exact Or.inl ⟨⟨j, by omega, j2⟩, e⟩
      · refine Or.inr ⟨fun j j1 j2 => ?_, e2⟩
        by_cases z : j = i
        · rw [z]
          exact q
        · exact e1 j (by omega) j2
theorem hd_M1 {K : xG → xA → Int32 → Option (Int32 × xG × xA)} {k : Nat} {g : xG} {a : xA} {x1 : Int32} (hk : k ≤ 3) (h4 : g 4 = nI k) : ∀ (r i n : Nat), i + r = k → r < n → f_X12_readsHead_19 K n g a x1 1 (nI i) = some (100 + x1, g, a)
  | 0, i, n, hi, hn => by
    obtain ⟨n, rfl⟩ := pos_of hn
    rw [e_X12_readsHead_19, h4, if_pos (nI_le (by omega) (by omega)), if_neg (by decide)]
  | r + 1, i, n, hi, hn => by
    obtain ⟨n, rfl⟩ := pos_of hn
    rw [e_X12_readsHead_19, h4, if_neg (nI_ge (by omega) (by omega)), if_neg (by decide), nI_1]
    exact hd_M1 hk h4 r (i + 1) n (by omega) (by omega)
theorem hd_M {K : xG → xA → Int32 → Option (Int32 × xG × xA)} {k x d p c : Nat} {hd : Nat → Nat} {g : xG} {a : xA} (hk : k + d ≤ 5) (hd2 : d = 2 ∨ d = 3) (h0 : g 0 = nI d) (h4 : g 4 = nI k) (h6 : ∀ i, i < k → a 6 i = nI (hd i) ∧ hd i < 6) (hs : f_X12_signAt g a (nI p) = some (nI c)) (hx : nI c - 97 = nI x) (hx6 : x < 6) :
    ∀ (r i n : Nat), i + r = k → r < n → ((∃ j, i ≤ j ∧ j < k ∧ hd j = x) → f_X12_readsHead_19 K n g a (nI p) 0 (nI i) = some (100 + nI p, g, a)) ∧ ((∀ j, i ≤ j → j < k → hd j ≠ x) → f_X12_readsHead_19 K n g a (nI p) 0 (nI i) = if k + d < 5 then K (upd g 4 (nI (k + 1))) (upA a 6 (upd (a 6) k (nI x))) (nI (p + 1)) else some (100 + nI p, g, a))
  | 0, i, n, hi, hn => by
    obtain ⟨n, rfl⟩ := pos_of hn
    refine ⟨fun ⟨j, h1, h2, _⟩ => by omega, fun _ => ?_⟩
    have e : ∀ w : Nat, w < 100 → f_X12_readsHead_81 K g a (nI p) (nI w) (nI k) = if k = w then some (100 + nI p, g, a) else (if k < 3 then K (upd g 4 (nI (k + 1))) (upA a 6 (upd (a 6) k (nI x))) (nI (p + 1)) else f_X12_readsHead_81 K g a (nI p) (nI w) (nI k)) := fun w hw => by
      by_cases q : k = w
      · rw [if_pos q]
        unfold f_X12_readsHead_81
        rw [if_pos (by rw [q])]
      · rw [if_neg q]
        by_cases q2 : k < 3
        · rw [if_pos q2]
          unfold f_X12_readsHead_81
          rw [if_neg (fun z => q ((nI_eqs (by omega) hw).mp z)), hs, Option.bind_some, h4, ck_t (inB_t q2 (by decide)), nI_1, nI_1, nI_clamp (by omega), hx]
        · rw [if_neg q2]
    rw [e_X12_readsHead_19, h4, if_pos (nI_le (by omega) (by omega)), if_pos rfl, h0]
    rcases hd2 with rfl | rfl
    · rw [if_pos (show nI 2 = 2 from rfl), show (3 : Int32) = nI 3 from rfl, e 3 (by decide)]
      by_cases q : k = 3
      · rw [if_pos q, if_neg (by omega)]
      · rw [if_neg q, if_pos (by omega), if_pos (by omega)]
    · rw [if_neg (show ¬ nI 3 = 2 by decide), show (2 : Int32) = nI 2 from rfl, e 2 (by decide)]
      by_cases q : k = 2
      · rw [if_pos q, if_neg (by omega)]
      · rw [if_neg q, if_pos (by omega), if_pos (by omega)]
  | r + 1, i, n, hi, hn => by
    obtain ⟨n, rfl⟩ := pos_of hn
    obtain ⟨c1, c2⟩ := h6 i (by omega)
    obtain ⟨ih1, ih2⟩ := hd_M (K := K) hk hd2 h0 h4 h6 hs hx hx6 r (i + 1) n (by omega) (by omega)
    rw [e_X12_readsHead_19, h4, if_neg (nI_ge (by omega) (by omega)), if_pos rfl, ck_t (inB_t (by omega) (by decide)), hs, Option.bind_some, hx, nI_clamp (by omega), c1, nI_1]
    by_cases q : hd i = x
    · rw [if_pos (by rw [q]), hd_M1 (by omega) h4 r (i + 1) n (by omega) (by omega)]
      exact ⟨fun _ => rfl, fun h => absurd q (h i (Nat.le_refl _) (by omega))⟩
    · rw [if_neg (fun z => q ((nI_eqs (by omega) (by omega)).mp z))]
      refine ⟨fun ⟨j, h1, h2, h3⟩ => ih1 ⟨j, ?_, h2, h3⟩, fun h => ih2 (fun j h1 h2 => h j (by omega) h2)⟩
      by_cases z : j = i
      · rw [z] at h3
        exact absurd h3 q
      · omega
