/-! The coupling of the class's state with the model's. -/
def eqm (d : Nat) : Nat := if d = 2 then 9 else 273
def lowv (f : Nat → Nat) : Nat → Nat
  | 0 => 6
  | n + 1 => if f n < lowv f n then f n else lowv f n
def sgn (c : Nat) : Prop := (97 ≤ c ∧ c ≤ 102) ∨ (48 ≤ c ∧ c ≤ 55) ∨ c = 40 ∨ c = 41 ∨ c = 44 ∨ c = 61 ∨ c = 38 ∨ c = 58
def CR (d R : Nat) (pl tu : Nat → Nat) (g : xG) (a : xA) (gm : xG) (am : xA) : Prop := R ≤ 8 ∧ g 1 = nI R ∧ gm 1 = nI R ∧ a 5 8 = nI 2 ∧ a 6 8 = nI (eqm d) ∧ ∀ r, r < R → a 5 r = nI (pl r) ∧ am 1 r = nI (pl r) ∧ a 6 r = nI (tu r) ∧ am 2 r = nI (tu r) ∧ 1 ≤ pl r ∧ pl r + d ≤ 5 ∧ tu r < 2 ^ (d ^ pl r)
def CK (d K : Nat) (ar : Nat → Nat) (an : Nat → Nat → Nat) (g : xG) (a : xA) (gm : xG) (am : xA) : Prop := K ≤ 6 ∧ g 4 = nI K ∧ gm 2 = nI K ∧ ∀ k, k < K → Opr d k (ar k) (an k) g a ∧ OpM d k (ar k) (an k) am ∧ am 3 k = nI (ar k)
def CT (T : Nat) (ch : Nat → Nat) (g : xG) (a : xA) (gm : xG) (am : xA) : Prop := T ≤ 60 ∧ g 6 = nI T ∧ gm 3 = nI T ∧ ∀ i, i < T → a 20 i = nI (ch i) ∧ am 5 i = nI (ch i) ∧ sgn (ch i)
def CI (R V C : Nat) (pl cr : Nat → Nat) (cv : Nat → Nat → Nat) (g : xG) (a : xA) (gm : xG) (am : xA) : Prop := 1 ≤ V ∧ V ≤ 6 ∧ C ≤ 16 ∧ g 14 = nI V ∧ gm 6 = nI V ∧ g 13 = nI C ∧ gm 7 = nI C ∧ ∀ c, c < C → cr c < R ∧ a 32 c = nI (cr c) ∧ am 9 c = nI (cr c) ∧ a 33 c = nI (pl (cr c)) ∧ a 35 c = nI (lowv (cv c) (pl (cr c))) ∧ ∀ p, p < pl (cr c) → a 34 (3 * c + p) = nI (cv c p) ∧ am 10 (3 * c + p) = nI (cv c p) ∧ cv c p < V
def Cpl (g : xG) (a : xA) (gm : xG) (am : xA) : Prop := ∃ (d R K T V C : Nat) (pl tu ar ch cr : Nat → Nat) (an cv : Nat → Nat → Nat), Bas d g a ∧ gm 0 = nI d ∧ CR d R pl tu g a gm am ∧ CK d K ar an g a gm am ∧ CT T ch g a gm am ∧ CI R V C pl cr cv g a gm am
def PX : List Nat := [2, 3, 5, 7, 8, 9, 10, 11, 12, 21]
def QX : List Nat := [8, 9, 12, 15, 16, 17, 18, 22, 23, 24, 25, 26, 27, 28, 29, 30, 31, 36, 37, 38, 39, 40, 53]
def PM : List Nat := [4, 5, 8]
def QM : List Nat := [6, 7, 8, 11, 12, 13, 14, 15]
/-- what asking may change in the model -/
def SmM (gm : xG) (am : xA) (gm' : xG) (am' : xA) : Prop := (∀ i, ¬ i ∈ PM → gm' i = gm i) ∧ (∀ i, ¬ i ∈ QM → i ≠ 4 → am' i = am i) ∧ ∀ i, i < 162 → am' 4 i = am 4 i
theorem SmM_of {P Q : List Nat} {gm gm' : xG} {am am' : xA} (h : Sm P Q gm am gm' am') (hp : ∀ i ∈ P, i ∈ PM := by decide) (hq : ∀ i ∈ Q, i ∈ QM := by decide) : SmM gm am gm' am' :=
  ⟨fun i hi => h.1 i (fun q => hi (hp i q)), fun i hi _ => h.2 i (fun q => hi (hq i q)), fun i _ => congrFun (h.2 4 (fun q => absurd (hq 4 q) (by decide))) i⟩
theorem SmM_rfl {gm : xG} {am : xA} : SmM gm am gm am := ⟨fun _ _ => rfl, fun _ _ _ => rfl, fun _ _ => rfl⟩
theorem SmM_tr {g g1 g2 : xG} {a a1 a2 : xA} (h1 : SmM g a g1 a1) (h2 : SmM g1 a1 g2 a2) : SmM g a g2 a2 :=
  ⟨fun i hi => (h2.1 i hi).trans (h1.1 i hi), fun i hi h4 => (h2.2.1 i hi h4).trans (h1.2.1 i hi h4), fun i hi => (h2.2.2 i hi).trans (h1.2.2 i hi)⟩
theorem SmM_8 {gm : xG} {am : xA} {v : Int32} : SmM gm am (upd gm 8 v) am := ⟨fun i hi => upd_n _ _ (fun h => hi (by rw [h]; decide)), fun _ _ _ => rfl, fun _ _ => rfl⟩
theorem Cpl_fr {g g' : xG} {a a' : xA} {gm gm' : xG} {am am' : xA} (h : Cpl g a gm am) (s : Sm PX QX g a g' a') (sm : SmM gm am gm' am') : Cpl g' a' gm' am' := by
  obtain ⟨d, R, K, T, V, C, pl, tu, ar, ch, cr, an, cv, hB, h0, hR, hK, hT, hI⟩ := h
  refine ⟨d, R, K, T, V, C, pl, tu, ar, ch, cr, an, cv, Bas_sm hB s, (sm.1 0 (by decide)).trans h0, ⟨hR.1, (s.1 1 (by decide)).trans hR.2.1, (sm.1 1 (by decide)).trans hR.2.2.1, (congrFun (s.2 5 (by decide)) 8).trans hR.2.2.2.1, (congrFun (s.2 6 (by decide)) 8).trans hR.2.2.2.2.1, fun r hr => ?_⟩, ⟨hK.1, (s.1 4 (by decide)).trans hK.2.1, (sm.1 2 (by decide)).trans hK.2.2.1, fun k hk => ?_⟩, ⟨hT.1, (s.1 6 (by decide)).trans hT.2.1, (sm.1 3 (by decide)).trans hT.2.2.1, fun i hi => ?_⟩, ⟨hI.1, hI.2.1, hI.2.2.1, (s.1 14 (by decide)).trans hI.2.2.2.1, (sm.1 6 (by decide)).trans hI.2.2.2.2.1, (s.1 13 (by decide)).trans hI.2.2.2.2.2.1, (sm.1 7 (by decide)).trans hI.2.2.2.2.2.2.1, fun c hc => ?_⟩⟩
  · obtain ⟨q1, q2, q3, q4, q5⟩ := hR.2.2.2.2.2 r hr
    exact ⟨(congrFun (s.2 5 (by decide)) r).trans q1, (congrFun (sm.2.1 1 (by decide) (by decide)) r).trans q2, (congrFun (s.2 6 (by decide)) r).trans q3, (congrFun (sm.2.1 2 (by decide) (by decide)) r).trans q4, q5⟩
  · obtain ⟨q1, q2, q3⟩ := hK.2.2.2 k hk
    have hk6 : k < 6 := Nat.lt_of_lt_of_le hk hK.1
    have hw27 := pw3 hB.1 q1.2.2.2.1
    have hp : ∀ k, k < 6 → ¬ (15 + k) ∈ PX ∧ ¬ (47 + k) ∈ QX := by decide
    refine ⟨⟨q1.1, (s.1 _ (hp k hk6).1).trans q1.2.1, q1.2.2.1, q1.2.2.2.1, fun p hp1 => ⟨(congrFun (s.2 _ (hp k hk6).2) p).trans (q1.2.2.2.2 p hp1).1, (q1.2.2.2.2 p hp1).2⟩⟩, ⟨q2.1, q2.2.1, q2.2.2.1, fun p hp1 => ⟨(sm.2.2 _ (by omega)).trans (q2.2.2.2 p hp1).1, (q2.2.2.2 p hp1).2⟩⟩, (congrFun (sm.2.1 3 (by decide) (by decide)) k).trans q3⟩
  · obtain ⟨q1, q2, q3⟩ := hT.2.2.2 i hi
    exact ⟨(congrFun (s.2 20 (by decide)) i).trans q1, (congrFun (sm.2.1 5 (by decide) (by decide)) i).trans q2, q3⟩
  · obtain ⟨q1, q2, q3, q4, q5, q6⟩ := hI.2.2.2.2.2.2.2 c hc
    refine ⟨q1, (congrFun (s.2 32 (by decide)) c).trans q2, (congrFun (sm.2.1 9 (by decide) (by decide)) c).trans q3, (congrFun (s.2 33 (by decide)) c).trans q4, (congrFun (s.2 35 (by decide)) c).trans q5, fun p hp => ?_⟩
    obtain ⟨r1, r2, r3⟩ := q6 p hp
    exact ⟨(congrFun (s.2 34 (by decide)) _).trans r1, (congrFun (sm.2.1 10 (by decide) (by decide)) _).trans r2, r3⟩
theorem Cpl_8 {g : xG} {a : xA} {gm : xG} {am : xA} {v : Int32} (h : Cpl g a gm am) : Cpl g a (upd gm 8 v) am := Cpl_fr h Sm_rfl SmM_8
/-! Whole numbers as arguments. -/
theorem vcase (v : Int32) : v < 0 ∨ ∃ j, j < 2 ^ 31 ∧ v = nI j := by
  by_cases h : v < 0
  · exact Or.inl h
  · exact Or.inr (nI_of h)
theorem toI0 : (0 : Int32).toInt = 0 := by decide
theorem neg_lt {v : Int32} (h : v < 0) {j : Nat} (hj : j < 2 ^ 31) : v < nI j := by
  rw [Int32.lt_iff_toInt_lt] at *
  rw [nI_toInt hj]
  rw [toI0] at h
  omega
theorem neg_le {v : Int32} (h : v < 0) {j : Nat} (hj : j < 2 ^ 31) : v ≤ nI j := by
  rw [Int32.le_iff_toInt_le]
  rw [Int32.lt_iff_toInt_lt, toI0] at h
  rw [nI_toInt hj]
  omega
theorem neg_nle {v : Int32} (h : v < 0) {j : Nat} (hj : j < 2 ^ 31) : ¬ nI j ≤ v := by
  rw [Int32.le_iff_toInt_le, nI_toInt hj]
  rw [Int32.lt_iff_toInt_lt, toI0] at h
  omega
theorem neg_nlt {v : Int32} (h : v < 0) {j : Nat} (hj : j < 2 ^ 31) : ¬ nI j < v := by
  rw [Int32.lt_iff_toInt_lt, nI_toInt hj]
  rw [Int32.lt_iff_toInt_lt, toI0] at h
  omega
theorem neg_ne {v : Int32} (h : v < 0) {j : Nat} (hj : j < 2 ^ 31) : ¬ v = nI j := fun e => by
  rw [e] at h
  exact nI_pos hj h
/-- in a range, or not -/
theorem tri (v : Int32) {lo hi : Nat} (h : hi < 2 ^ 30) (hl : lo < 2 ^ 30) : v < nI lo ∨ nI hi < v ∨ ∃ j, lo ≤ j ∧ j ≤ hi ∧ v = nI j := by
  rcases vcase v with h1 | ⟨j, hj, rfl⟩
  · exact Or.inl (neg_lt h1 (by omega))
  · by_cases h2 : j < lo
    · exact Or.inl (nI_lt h2 (by omega))
    · by_cases h3 : hi < j
      · exact Or.inr (Or.inl (nI_lt h3 hj))
      · exact Or.inr (Or.inr ⟨j, by omega, by omega, rfl⟩)
theorem in_1 {g : xG} {a : xA} {lo hi j : Nat} (h1 : lo ≤ j) (h2 : j ≤ hi) (h : hi < 2 ^ 30) : t_X12_in g a (nI j) (nI lo) (nI hi) = 1 := by
  unfold t_X12_in
  rw [if_neg (nI_nlt h1 (by omega)), if_neg (nI_nlt h2 (by omega))]
theorem in_0 {g : xG} {a : xA} {v x y : Int32} (h : v < x ∨ y < v) : t_X12_in g a v x y = 0 := by
  unfold t_X12_in
  by_cases h1 : v < x
  · rw [if_pos h1]
  · rw [if_neg h1, if_pos (h.resolve_left h1)]
/-- a number below another one, or not: as both sides ask it -/
theorem ix3 (v : Int32) {R : Nat} (hR : R < 2 ^ 30) : ((v < 0 ∨ nI R ≤ v) ∧ (v < 0 ∨ nI R - 1 < v)) ∨ ∃ r, r < R ∧ v = nI r := by
  rcases vcase v with h1 | ⟨j, hj, rfl⟩
  · exact Or.inl ⟨Or.inl h1, Or.inl h1⟩
  · by_cases h2 : j < R
    · exact Or.inr ⟨j, h2, rfl⟩
    · refine Or.inl ⟨Or.inr (nI_le (by omega) hj), Or.inr ?_⟩
      cases R with
      | zero =>
        rw [Int32.lt_iff_toInt_lt, nI_toInt hj]
        have : (nI 0 - 1).toInt = -1 := by decide
        omega
      | succ R => rw [nI_pred]; exact nI_lt (by omega) hj
theorem inR_0 {g : xG} {a : xA} {v : Int32} {R : Nat} (h : v < 0 ∨ nI R - 1 < v) : t_X12_in g a v 0 (nI R - 1) = 0 := in_0 h
theorem inR_1 {g : xG} {a : xA} {r R : Nat} (h : r < R) (hR : R < 2 ^ 30) : t_X12_in g a (nI r) 0 (nI R - 1) = 1 := by
  obtain ⟨R, rfl⟩ := pos_of h
  rw [nI_pred]
  exact in_1 (lo := 0) (Nat.zero_le _) (by omega) (by omega)
theorem there_0 {g : xG} {a : xA} {v : Int32} {R : Nat} (hg : g 1 = nI R) (h : v < 0 ∨ nI R ≤ v) : t_X10_isThere g a v = 0 := by
  unfold t_X10_isThere
  by_cases h1 : v < 0
  · rw [if_pos h1]
  · rw [if_neg h1, hg, if_pos (h.resolve_left h1)]
theorem there_1 {g : xG} {a : xA} {r R : Nat} (hg : g 1 = nI R) (h : r < R) (hR : R < 2 ^ 30) : t_X10_isThere g a (nI r) = 1 := by
  unfold t_X10_isThere
  rw [if_neg (nI_pos (by omega)), hg, if_neg (nI_ge h (by omega))]
theorem isRel_0 {g : xG} {a : xA} {v : Int32} {R : Nat} (hg : g 1 = nI R) (h : v < 0 ∨ nI R - 1 < v) : f_X12_isRelation g a v = some 0 := by
  unfold f_X12_isRelation
  rw [hg, inR_0 h, ck_t (by decide)]
theorem isRel_1 {g : xG} {a : xA} {r R : Nat} (hg : g 1 = nI R) (h : r < R) (hR : R < 2 ^ 30) : f_X12_isRelation g a (nI r) = some 1 := by
  unfold f_X12_isRelation
  rw [hg, inR_1 h hR, ck_t (by decide)]
theorem isOp_0 {g : xG} {a : xA} {v : Int32} {R : Nat} (hg : g 2 = nI R) (h : v < 0 ∨ nI R - 1 < v) : f_X12_isOperation g a v = some 0 := by
  unfold f_X12_isOperation
  rw [hg, inR_0 h, ck_t (by decide)]
theorem isOp_1 {g : xG} {a : xA} {r R : Nat} (hg : g 2 = nI R) (h : r < R) (hR : R < 2 ^ 30) : f_X12_isOperation g a (nI r) = some 1 := by
  unfold f_X12_isOperation
  rw [hg, inR_1 h hR, ck_t (by decide)]
theorem getF_0 {v : Int32} {K : Nat} (h : v < 0 ∨ nI K ≤ v) : getF (nI K) v = none := by
  unfold getF
  by_cases h1 : v < 0
  · rw [if_pos h1]
  · rw [if_neg h1, if_pos (h.resolve_left h1)]
theorem getF_1 {k K : Nat} (h : k < K) (hK : K ≤ 6) : getF (nI K) (nI k) = some k := by
  unfold getF
  rw [if_neg (nI_pos (by omega)), if_neg (nI_ge h (by omega)), if_neg (show ¬ (6 : Int32) ≤ nI k from nI_ge (a := k) (b := 6) (by omega) (by decide)), nI_clamp (by omega)]
theorem om_n {α : Type} {n : α} {f : Nat → α} : om none n f = n := rfl
theorem om_s {α : Type} {n : α} {f : Nat → α} {k : Nat} : om (some k) n f = f k := rfl
theorem plOf {g : xG} {a : xA} {r x : Nat} (hr : r < 9) (h : a 5 r = nI x) : t_X10_placesOf g a (nI r) = nI x := by
  unfold t_X10_placesOf
  rw [at_in hr (by decide), h]
theorem tuOf {g : xG} {a : xA} {r x : Nat} (hr : r < 9) (h : a 6 r = nI x) : t_X10_tuplesOf g a (nI r) = nI x := by
  unfold t_X10_tuplesOf
  rw [at_in hr (by decide), h]
theorem thr_8 {g : xG} {a : xA} {v : Int32} : t_X12_thrown (upd g 8 v) a = v := upd_s ..
