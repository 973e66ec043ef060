/-! The search: what it finds. -/
def tp (d : Nat) (f : Nat → Nat) (x y z : Nat) : Nat := f x + d * f y + (if d = 2 then d * d * f z else 0)
def Al (d w : Nat) (S : Nat → Nat → Prop) (f : Nat → Nat) (x y z : Nat) : Prop := S (kN d (d ^ w) x y z) (tp d f x y z)
theorem tp_lt {d : Nat} {f : Nat → Nat} {x y z : Nat} (hd : d = 2 ∨ d = 3) (hx : f x < d) (hy : f y < d) (hz : d = 2 → f z < d) : tp d f x y z < d ^ (5 - d) := by
  unfold tp
  rcases hd with rfl | rfl
  · rw [if_pos rfl]
    have := hz rfl
    show _ < 8
    omega
  · rw [if_neg (by decide)]
    show _ < 9
    omega
theorem kN_inj {d N x y z x' y' z' : Nat} (hx : x < N) (hy : y < N) (hz : z < N) (hx' : x' < N) (hy' : y' < N) (hz' : z' < N) (h : kN d N x y z = kN d N x' y' z') : x = x' ∧ y = y' ∧ (d = 2 → z = z') := by
  unfold kN at h
  have key : ∀ {a b a' b' : Nat}, a < N → a' < N → a + N * b = a' + N * b' → a = a' ∧ b = b' := fun {a b a' b'} ha ha' e => by
    have e1 : (a + N * b) % N = a := by rw [Nat.add_mul_mod_self_left, Nat.mod_eq_of_lt ha]
    have e2 : (a' + N * b') % N = a' := by rw [Nat.add_mul_mod_self_left, Nat.mod_eq_of_lt ha']
    have e3 : a = a' := by rw [← e1, ← e2, e]
    subst e3
    exact ⟨rfl, Nat.eq_of_mul_eq_mul_left (by omega) (show N * b = N * b' by omega)⟩
  by_cases hd : d = 2
  · rw [if_pos hd, if_pos hd] at h
    have h' : x + N * (y + N * z) = x' + N * (y' + N * z') := by
      rw [Nat.mul_add, Nat.mul_add, ← Nat.mul_assoc, ← Nat.mul_assoc]
      omega
    obtain ⟨k1, k2⟩ := key hx hx' h'
    obtain ⟨k3, k4⟩ := key hy hy' k2
    exact ⟨k1, k3, fun _ => k4⟩
  · rw [if_neg hd, if_neg hd, Nat.add_zero, Nat.add_zero] at h
    obtain ⟨k1, k2⟩ := key hx hx' h
    exact ⟨k1, k2, fun q => absurd q hd⟩
theorem tp_ap {d w n0 : Nat} {f x : Nat → Nat} (hd : d = 2 ∨ d = 3) (hn1 : 1 ≤ n0) (hn : n0 + d ≤ 5) (hf : ∀ p, p < d ^ w → f p < d) : tp d f (col d w x 0) (col d w x (min 1 (n0 - 1))) (col d w x (min 2 (n0 - 1))) % d ^ n0 = apl d w f n0 x := by
  have hd0 : 0 < d := by omega
  have c0 := hf _ (col_lt (w := w) (x := x) (j := 0) hd0)
  have c1 := hf _ (col_lt (w := w) (x := x) (j := 1) hd0)
  have c2 := hf _ (col_lt (w := w) (x := x) (j := 2) hd0)
  have e : ∀ n, apl d w f n x = nm d (fun j => f (col d w x j)) n := fun n => rfl
  rw [e]
  unfold tp
  rcases hd with rfl | rfl
  · rw [if_pos rfl]
    rcases (by omega : n0 = 1 ∨ n0 = 2 ∨ n0 = 3) with rfl | rfl | rfl
    · show (f (col 2 w x 0) + 2 * f (col 2 w x 0) + 2 * 2 * f (col 2 w x 0)) % 2 ^ 1 = 0 + f (col 2 w x 0) * 2 ^ 0
      omega
    · show (f (col 2 w x 0) + 2 * f (col 2 w x 1) + 2 * 2 * f (col 2 w x 1)) % 2 ^ 2 = 0 + f (col 2 w x 0) * 2 ^ 0 + f (col 2 w x 1) * 2 ^ 1
      omega
    · show (f (col 2 w x 0) + 2 * f (col 2 w x 1) + 2 * 2 * f (col 2 w x 2)) % 2 ^ 3 = 0 + f (col 2 w x 0) * 2 ^ 0 + f (col 2 w x 1) * 2 ^ 1 + f (col 2 w x 2) * 2 ^ 2
      omega
  · rw [if_neg (by decide)]
    rcases (by omega : n0 = 1 ∨ n0 = 2) with rfl | rfl
    · show (f (col 3 w x 0) + 3 * f (col 3 w x 0) + 0) % 3 ^ 1 = 0 + f (col 3 w x 0) * 3 ^ 0
      omega
    · show (f (col 3 w x 0) + 3 * f (col 3 w x 1) + 0) % 3 ^ 2 = 0 + f (col 3 w x 0) * 3 ^ 0 + f (col 3 w x 1) * 3 ^ 1
      omega
/-- all that is asked of it: it keeps all relations but one -/
theorem Al_all {d R w lo : Nat} {pl tu f : Nat → Nat} (hd : d = 2 ∨ d = 3) (hR : ∀ r, r < R → 1 ≤ pl r ∧ pl r + d ≤ 5) (hf : ∀ p, p < d ^ w → f p < d) :
    (∀ x y z, x < d ^ w → y < d ^ w → z < d ^ w → Al d w (SK d R w lo pl tu) f x y z) ↔ ∀ r, r < R → r ≠ lo → bdiff (im d w f (pl r) (tu r)) (tu r) = 0 := by
  have hd0 : 0 < d := by omega
  constructor
  · intro h r hr hrl
    refine bdiff_0.mpr fun i hi => ?_
    obtain ⟨x, x1, x2⟩ := (im_bit hd0 hf i).mp hi
    have := h (col d w x 0) (col d w x (min 1 (pl r - 1))) (col d w x (min 2 (pl r - 1))) (col_lt hd0) (col_lt hd0) (col_lt hd0) r hr hrl x x1 rfl
    rw [tp_ap hd (hR r hr).1 (hR r hr).2 hf, x2] at this
    exact this
  · intro h x y z hx hy hz r hr hrl xx x1 hk
    obtain ⟨k1, k2, k3⟩ := kN_inj (col_lt hd0) (col_lt hd0) (col_lt hd0) hx hy hz hk
    have e : tp d f x y z = tp d f (col d w xx 0) (col d w xx (min 1 (pl r - 1))) (col d w xx (min 2 (pl r - 1))) := by
      unfold tp
      rw [k1, k2]
      by_cases h2 : d = 2
      · rw [if_pos h2, if_pos h2, k3 h2]
      · rw [if_neg h2, if_neg h2]
    rw [e, tp_ap hd (hR r hr).1 (hR r hr).2 hf]
    exact bdiff_0.mp (h r hr hrl) _ ((im_bit hd0 hf _).mpr ⟨xx, x1, rfl⟩)
theorem Al_cong {d w : Nat} {S : Nat → Nat → Prop} {f f' : Nat → Nat} {x y z : Nat} (hx : f x = f' x) (hy : f y = f' y) (hz : d = 2 → f z = f' z) : Al d w S f x y z ↔ Al d w S f' x y z := by
  unfold Al tp
  rw [hx, hy]
  by_cases h2 : d = 2
  · rw [if_pos h2, if_pos h2, hz h2]
  · rw [if_neg h2, if_neg h2]
theorem Al_z {d w : Nat} {S : Nat → Nat → Prop} {f : Nat → Nat} {x y z z' : Nat} (h : d ≠ 2) : Al d w S f x y z ↔ Al d w S f x y z' := by
  unfold Al tp kN
  rw [if_neg h, if_neg h, if_neg h, if_neg h]
/-- an answer at points is allowed -/
theorem allX {d w : Nat} {S : Nat → Nat → Prop} {y : Nat → Nat} {g : xG} {a : xA} (hB : Bas d g a) (hw : w ≤ 3) (h5 : g 5 = nI (d ^ w)) (hF : ∀ κ, κ < 729 → Fit (a 15 κ) (S κ) (d ^ (5 - d))) {p q r : Nat} (hp : p < d ^ w) (hq : q < d ^ w) (hr : r < d ^ w) (h1 : a 18 p = nI (y p) ∧ y p < d) (h2 : a 18 q = nI (y q) ∧ y q < d) (h3 : d = 2 → a 18 r = nI (y r) ∧ y r < d) :
    ∃ b : Bool, f_X8_isAllowed g a (nI p) (nI q) (nI r) = some (if b then 1 else 0) ∧ (b = true ↔ Al d w S y p q r) := by
  have hd := hB.1
  have h27 := pw3 hd hw
  have h9 := L9 hd
  obtain ⟨b, e1, e2⟩ := Fit_in (hF (kN d (d ^ w) p q r) (kN_lt hd hw hp hq hr)) h9 (tp_lt (f := y) (x := p) (y := q) (z := r) hd h1.2 h2.2 (fun h => (h3 h).2))
  refine ⟨b, ?_, e2⟩
  have p1 : t_X4_power g a 1 = nI d := by
    have := power_B (n := 1) hB (by decide)
    rw [Nat.pow_one] at this
    exact this
  have p2 : t_X4_power g a 2 = nI (d * d) := by
    have := power_B (n := 2) hB (by decide)
    rw [Nat.pow_succ, Nat.pow_one] at this
    exact this
  have et : f_X8_isAllowed g a (nI p) (nI q) (nI r) = f_X8_isAllowed_61 g a (nI p) (nI q) (nI r) (nI (tp d y p q r)) := by
    unfold f_X8_isAllowed tp
    rw [wid hB, p1, p2, at_in (by omega) (by decide), at_in (by omega) (by decide), h1.1, h2.1]
    rcases hd with h | h
    · subst h
      rw [if_neg (by decide), at_in (by omega) (by decide), (h3 rfl).1, pk_mul, nI_add, pk_mul, nI_add, if_pos rfl]
    · subst h
      rw [if_pos (by decide), pk_mul, nI_add, if_neg (by decide), Nat.add_zero]
  rw [et]
  unfold f_X8_isAllowed_61
  rw [keyX hB h5, at_in (kN_lt hd hw hp hq hr) (by decide), e1, ck_t]
  cases b <;> decide
/-- three of them -/
def Al3 (d w : Nat) (S : Nat → Nat → Prop) (y : Nat → Nat) (x p q : Nat) : Prop := Al d w S y x p q ∧ Al d w S y p x q ∧ Al d w S y p q x
theorem if49 {d w : Nat} {S : Nat → Nat → Prop} {y od : Nat → Nat} {g : xG} {a : xA} (hB : Bas d g a) (hw : w ≤ 3) (h5 : g 5 = nI (d ^ w)) (hF : ∀ κ, κ < 729 → Fit (a 15 κ) (S κ) (d ^ (5 - d))) {k i lst : Nat} (hk : k < d ^ w) (hi : i ≤ k) (hl : lst ≤ k) (ho : ∀ i, i < d ^ w → a 17 i = nI (od i) ∧ od i < d ^ w) (hy : ∀ i, i ≤ k → a 18 (od i) = nI (y (od i)) ∧ y (od i) < d) {K : Int32 → Int32 → Int32 → Int32 → Option Int32} :
    ∀ (r j n : Nat), j + r = lst + 1 → r < n → ((∃ j', j ≤ j' ∧ j' ≤ lst ∧ ¬ Al3 d w S y (od k) (od i) (od j')) ∧ f_X8_isFitting_49 g a K n (nI k) (nI (od k)) (nI lst) (nI i) (nI (od i)) (nI j) = some 0) ∨ ((∀ j', j ≤ j' → j' ≤ lst → Al3 d w S y (od k) (od i) (od j')) ∧ f_X8_isFitting_49 g a K n (nI k) (nI (od k)) (nI lst) (nI i) (nI (od i)) (nI j) = K (nI k) (nI (od k)) (nI lst) (nI (i + 1)))
  | 0, j, n, hj, hn => by
    obtain ⟨n, rfl⟩ := pos_of hn
    have h27 := pw3 hB.1 hw
    refine Or.inr ⟨fun j' h1 h2 => by omega, ?_⟩
    rw [e_X8_isFitting_49, if_pos (nI_lt (by omega) (by omega)), show nI i + 1 = nI (i + 1) from nI_1 i]
  | r + 1, j, n, hj, hn => by
    obtain ⟨n, rfl⟩ := pos_of hn
    have h27 := pw3 hB.1 hw
    obtain ⟨o1, o2⟩ := ho j (by omega)
    have ok2 := (ho k hk).2
    have oi2 := (ho i (by omega)).2
    obtain ⟨b1, e1, f1⟩ := allX hB hw h5 hF (y := y) ok2 oi2 o2 (hy k (Nat.le_refl _)) (hy i hi) (fun _ => hy j (by omega))
    obtain ⟨b2, e2, f2⟩ := allX hB hw h5 hF (y := y) oi2 ok2 o2 (hy i hi) (hy k (Nat.le_refl _)) (fun _ => hy j (by omega))
    obtain ⟨b3, e3, f3⟩ := allX hB hw h5 hF (y := y) oi2 o2 ok2 (hy i hi) (hy j (by omega)) (fun _ => hy k (Nat.le_refl _))
    rw [e_X8_isFitting_49, if_neg (nI_nlt (by omega) (by omega)), at_in (by omega) (by decide), o1, e1, Option.bind_some, show nI j + 1 = nI (j + 1) from nI_1 j]
    cases h1 : b1 with
    | false =>
      rw [if_pos (by decide)]
      exact Or.inl ⟨⟨j, Nat.le_refl _, by omega, fun q => by rw [f1.mpr q.1] at h1; cases h1⟩, rfl⟩
    | true =>
      rw [if_neg (by decide), e2, Option.bind_some]
      cases h2 : b2 with
      | false =>
        rw [if_pos (by decide)]
        exact Or.inl ⟨⟨j, Nat.le_refl _, by omega, fun q => by rw [f2.mpr q.2.1] at h2; cases h2⟩, rfl⟩
      | true =>
        rw [if_neg (by decide), e3, Option.bind_some]
        cases h3 : b3 with
        | false =>
          rw [if_pos (by decide)]
          exact Or.inl ⟨⟨j, Nat.le_refl _, by omega, fun q => by rw [f3.mpr q.2.2] at h3; cases h3⟩, rfl⟩
        | true =>
          rw [if_neg (by decide)]
          rcases if49 hB hw h5 hF hk hi hl ho hy (K := K) r (j + 1) n (by omega) (by omega) with ⟨⟨j', q1, q2, q3⟩, q4⟩ | ⟨q1, q2⟩
          · exact Or.inl ⟨⟨j', by omega, q2, q3⟩, q4⟩
          · refine Or.inr ⟨fun j' k1 k2 => ?_, q2⟩
            by_cases he : j' = j
            · rw [he]
              exact ⟨f1.mp h1, f2.mp h2, f3.mp h3⟩
            · exact q1 j' (by omega) k2
theorem if29 {d w : Nat} {S : Nat → Nat → Prop} {y od : Nat → Nat} {g : xG} {a : xA} (hB : Bas d g a) (hw : w ≤ 3) (h5 : g 5 = nI (d ^ w)) (hF : ∀ κ, κ < 729 → Fit (a 15 κ) (S κ) (d ^ (5 - d))) {k lst : Nat} (hk : k < d ^ w) (hl : lst ≤ k) (ho : ∀ i, i < d ^ w → a 17 i = nI (od i) ∧ od i < d ^ w) (hy : ∀ i, i ≤ k → a 18 (od i) = nI (y (od i)) ∧ y (od i) < d) :
    ∀ (r i n : Nat), i + r = k + 1 → r < n → ∃ b : Bool, f_X8_isFitting_29 g a n (nI k) (nI (od k)) (nI lst) (nI i) = some (if b then 1 else 0) ∧ (b = true ↔ ∀ i', i ≤ i' → i' ≤ k → ∀ j', j' ≤ lst → Al3 d w S y (od k) (od i') (od j'))
  | 0, i, n, hi, hn => by
    obtain ⟨n, rfl⟩ := pos_of hn
    have h27 := pw3 hB.1 hw
    refine ⟨true, ?_, fun _ i' h1 h2 => by omega, fun _ => rfl⟩
    rw [e_X8_isFitting_29, if_pos (nI_lt (by omega) (by omega))]
    rfl
  | r + 1, i, n, hi, hn => by
    obtain ⟨n, rfl⟩ := pos_of hn
    have h27 := pw3 hB.1 hw
    rw [e_X8_isFitting_29, if_neg (nI_nlt (by omega) (by omega)), at_in (by omega) (by decide), (ho i (by omega)).1]
    rcases if49 hB hw h5 hF hk (i := i) (by omega) hl ho hy (K := f_X8_isFitting_29 g a n) (lst + 1) 0 fu (by omega) (fu_gt (by omega)) with ⟨⟨j', q1, q2, q3⟩, q4⟩ | ⟨q1, q2⟩
    · exact ⟨false, q4, fun q => (by cases q), fun q => absurd (q i (Nat.le_refl _) (by omega) j' q2) q3⟩
    · obtain ⟨b, e1, e2⟩ := if29 hB hw h5 hF hk hl ho hy r (i + 1) n (by omega) (by omega)
      refine ⟨b, q2.trans e1, e2.trans ⟨fun q i' k1 k2 j' k3 => ?_, fun q i' k1 k2 => q i' (by omega) k2⟩⟩
      by_cases he : i' = i
      · rw [he]
        exact q1 j' (Nat.zero_le _) k3
      · exact q i' (by omega) k2 j' k3
def lstD (d k : Nat) : Nat := if d = 2 then k else 0
theorem fitX {d w : Nat} {S : Nat → Nat → Prop} {y od : Nat → Nat} {g : xG} {a : xA} (hB : Bas d g a) (hw : w ≤ 3) (h5 : g 5 = nI (d ^ w)) (hF : ∀ κ, κ < 729 → Fit (a 15 κ) (S κ) (d ^ (5 - d))) {k : Nat} (hk : k < d ^ w) (ho : ∀ i, i < d ^ w → a 17 i = nI (od i) ∧ od i < d ^ w) (hy : ∀ i, i ≤ k → a 18 (od i) = nI (y (od i)) ∧ y (od i) < d) :
    ∃ b : Bool, f_X8_isFitting g a (nI k) = some (if b then 1 else 0) ∧ (b = true ↔ ∀ i', i' ≤ k → ∀ j', j' ≤ lstD d k → Al3 d w S y (od k) (od i') (od j')) := by
  have h27 := pw3 hB.1 hw
  have hl : lstD d k ≤ k := by unfold lstD; split <;> omega
  obtain ⟨b, e1, e2⟩ := if29 hB hw h5 hF hk hl ho hy (k + 1) 0 fu (by omega) (fu_gt (by omega))
  refine ⟨b, ?_, e2.trans ⟨fun q i' k1 => q i' (Nat.zero_le _) k1, fun q i' _ k1 => q i' k1⟩⟩
  have ef : f_X8_isFitting g a (nI k) = f_X8_isFitting_29 g a fu (nI k) (nI (od k)) (nI (lstD d k)) (nI 0) := by
    unfold f_X8_isFitting lstD
    rw [wid hB, at_in (by omega) (by decide), (ho k hk).1]
    rcases hB.1 with h | h
    · subst h
      rw [if_neg (by decide), if_pos rfl]
      rfl
    · subst h
      rw [if_pos (by decide), if_neg (by decide)]
      rfl
  rw [ef]
  exact e1
def PFX (d w : Nat) (S : Nat → Nat → Prop) (od : Nat → Nat) (k : Nat) (y : Nat → Nat) : Prop := ∀ i1 i2 i3, i1 < k → i2 < k → i3 < k → Al d w S y (od i1) (od i2) (od i3)
theorem PFX_s {d w k : Nat} {S : Nat → Nat → Prop} {od y : Nat → Nat} : PFX d w S od (k + 1) y ↔ PFX d w S od k y ∧ ∀ i', i' ≤ k → ∀ j', j' ≤ lstD d k → Al3 d w S y (od k) (od i') (od j') := by
  have hl : lstD d k ≤ k := by unfold lstD; split <;> omega
  constructor
  · intro h
    exact ⟨fun i1 i2 i3 h1 h2 h3 => h i1 i2 i3 (by omega) (by omega) (by omega), fun i' k1 j' k2 => ⟨h k i' j' (by omega) (by omega) (by omega), h i' k j' (by omega) (by omega) (by omega), h i' j' k (by omega) (by omega) (by omega)⟩⟩
  · rintro ⟨h, h3⟩ i1 i2 i3 k1 k2 k3
    by_cases hd2 : d = 2
    · have hlk : lstD d k = k := if_pos hd2
      rw [hlk] at h3
      by_cases e1 : i1 = k
      · rw [e1]
        exact (h3 i2 (by omega) i3 (by omega)).1
      · by_cases e2 : i2 = k
        · rw [e2]
          exact (h3 i1 (by omega) i3 (by omega)).2.1
        · by_cases e3 : i3 = k
          · rw [e3]
            exact (h3 i1 (by omega) i2 (by omega)).2.2
          · exact h i1 i2 i3 (by omega) (by omega) (by omega)
    · by_cases e1 : i1 = k
      · rw [e1]
        exact (Al_z hd2).mp (h3 i2 (by omega) 0 (Nat.zero_le _)).1
      · by_cases e2 : i2 = k
        · rw [e2]
          exact (Al_z hd2).mp (h3 i1 (by omega) 0 (Nat.zero_le _)).2.1
        · exact (Al_z hd2).mp (h i1 i2 i1 (by omega) (by omega) (by omega))
def VAL (d w : Nat) (S : Nat → Nat → Prop) (al : Nat → Nat) (f : Nat → Nat) : Prop := (∀ p, p < d ^ w → f p < d ∧ (al p).testBit (f p) = true) ∧ ∀ x y z, x < d ^ w → y < d ^ w → z < d ^ w → Al d w S f x y z
/-- the state that the search looks at -/
def SRH (d w : Nat) (S : Nat → Nat → Prop) (al od : Nat → Nat) (g : xG) (a : xA) : Prop := Bas d g a ∧ g 5 = nI (d ^ w) ∧ (∀ κ, κ < 729 → Fit (a 15 κ) (S κ) (d ^ (5 - d))) ∧ (∀ p, p < d ^ w → a 16 p = nI (al p) ∧ al p < 8) ∧ ∀ i, i < d ^ w → a 17 i = nI (od i) ∧ od i < d ^ w
theorem SRH_18 {d w : Nat} {S : Nat → Nat → Prop} {al od : Nat → Nat} {g : xG} {a : xA} (h : SRH d w S al od g a) {f : Nat → Int32} : SRH d w S al od g (upA a 18 f) := by
  obtain ⟨h1, h2, h3, h4, h5⟩ := h
  refine ⟨Bas_fr h1 rfl (upA_n _ _ (by decide)) (upA_n _ _ (by decide)), h2, ?_, ?_, ?_⟩
  · rw [upA_n _ _ (by decide)]; exact h3
  · rw [upA_n _ _ (by decide)]; exact h4
  · rw [upA_n _ _ (by decide)]; exact h5
/-- of all that go on so, this is the first -/
def LexF (d w : Nat) (S : Nat → Nat → Prop) (al od : Nat → Nat) (k : Nat) (y y' : Nat → Nat) : Prop := VAL d w S al y' ∧ (∀ i, i < k → y' (od i) = y (od i)) ∧ ∀ f, VAL d w S al f → (∀ i, i < k → f (od i) = y (od i)) → (∀ i, i < d ^ w → f (od i) = y' (od i)) ∨ ∃ i, i < d ^ w ∧ (∀ j, j < i → f (od j) = y' (od j)) ∧ y' (od i) < f (od i)
def ICs (self : xG → xA → Int32 → Option (Int32 × xA)) (d w : Nat) (S : Nat → Nat → Prop) (al od : Nat → Nat) (g : xG) (k : Nat) : Prop :=
  ∀ (a : xA) (y : Nat → Nat), SRH d w S al od g a → (∀ i, i < k → a 18 (od i) = nI (y (od i)) ∧ y (od i) < d ∧ (al (od i)).testBit (y (od i)) = true) → PFX d w S od k y →
    ∃ (b : Bool) (f : Nat → Int32), self g a (nI k) = some (if b then 1 else 0, upA a 18 f) ∧ (∀ i, i < k → f (od i) = a 18 (od i)) ∧ (b = false → ∀ f, VAL d w S al f → (∀ i, i < k → f (od i) = y (od i)) → False) ∧ (b = true → ∃ y', (∀ p, p < d ^ w → f p = nI (y' p)) ∧ LexF d w S al od k y y')
theorem ic21 {self : xG → xA → Int32 → Option (Int32 × xA)} {d w : Nat} {S : Nat → Nat → Prop} {al od : Nat → Nat} {g : xG} {k : Nat} (hs : ICs self d w S al od g (k + 1)) (hk : k < d ^ w) (hw : w ≤ 3) (hinj : ∀ i j, i < j → j < d ^ w → od i ≠ od j) {y : Nat → Nat} :
    ∀ (r v n : Nat) (a : xA), v + r = d → r < n → SRH d w S al od g a → (∀ i, i < k → a 18 (od i) = nI (y (od i)) ∧ y (od i) < d ∧ (al (od i)).testBit (y (od i)) = true) → PFX d w S od k y → (∀ f, VAL d w S al f → (∀ i, i < k → f (od i) = y (od i)) → v ≤ f (od k)) →
    ∃ (b : Bool) (f : Nat → Int32), f_X8_isCompleted_21 self g n a (nI k) (nI (od k)) (nI v) = some (if b then 1 else 0, upA a 18 f) ∧ (∀ i, i < k → f (od i) = a 18 (od i)) ∧ (b = false → ∀ f, VAL d w S al f → (∀ i, i < k → f (od i) = y (od i)) → False) ∧ (b = true → ∃ y', (∀ p, p < d ^ w → f p = nI (y' p)) ∧ LexF d w S al od k y y')
  | 0, v, n, a, hv, hn, hS, hy, hP, hge => by
    obtain ⟨n, rfl⟩ := pos_of hn
    have hd := hS.1.1
    refine ⟨false, a 18, ?_, fun _ _ => rfl, fun _ f hf hfy => ?_, fun q => (by cases q)⟩
    · rw [e_X8_isCompleted_21, hS.1.2.1, if_pos (nI_le (by omega) (by omega)), upA_id]
      rfl
    · have h1 := hge f hf hfy
      have h2 := (hf.1 (od k) (hS.2.2.2.2 k hk).2).1
      omega
  | r + 1, v, n, a, hv, hn, hS, hy, hP, hge => by
    obtain ⟨n, rfl⟩ := pos_of hn
    have hd := hS.1.1
    have h27 := pw3 hd hw
    have hok := (hS.2.2.2.2 k hk).2
    obtain ⟨al1, al2⟩ := hS.2.2.2.1 (od k) hok
    rw [e_X8_isCompleted_21, hS.1.2.1, if_neg (nI_ge (by omega) (by omega)), at_in (by omega) (by decide), al1, isIn_nI (by omega) (by omega), show nI v + 1 = nI (v + 1) from nI_1 v]
    have next : ∀ (F : Nat → Int32), (∀ i, i < k → F (od i) = a 18 (od i)) → (∀ f, VAL d w S al f → (∀ i, i < k → f (od i) = y (od i)) → f (od k) ≠ v) → ∃ (b : Bool) (f : Nat → Int32), f_X8_isCompleted_21 self g n (upA a 18 F) (nI k) (nI (od k)) (nI (v + 1)) = some (if b then 1 else 0, upA a 18 f) ∧ (∀ i, i < k → f (od i) = a 18 (od i)) ∧ (b = false → ∀ f, VAL d w S al f → (∀ i, i < k → f (od i) = y (od i)) → False) ∧ (b = true → ∃ y', (∀ p, p < d ^ w → f p = nI (y' p)) ∧ LexF d w S al od k y y') := fun F hF hno => by
      obtain ⟨b, f, q1, q2, q3⟩ := ic21 hs hk hw hinj (y := y) r (v + 1) n (upA a 18 F) (by omega) (by omega) (SRH_18 hS) (fun i hi => by
        rw [upA_s, hF i hi]
        exact hy i hi) hP (fun f hf hfy => by
        have h1 := hge f hf hfy
        have h2 := hno f hf hfy
        omega)
      rw [upA_2] at q1
      refine ⟨b, f, q1, fun i hi => ?_, q3⟩
      rw [q2 i hi, upA_s, hF i hi]
    cases hb : (al (od k)).testBit v with
    | false =>
      rw [if_pos (by decide)]
      have := next (a 18) (fun _ _ => rfl) (fun f hf hfy e => by
        have := (hf.1 (od k) hok).2
        rw [e, hb] at this
        cases this)
      rw [upA_id] at this
      exact this
    | true =>
      rw [if_neg (by decide), put_in (by omega) (by decide)]
      have hF : ∀ i, i < k → upd (a 18) (od k) (nI v) (od i) = a 18 (od i) := fun i hi => upd_n _ _ (hinj i k hi hk)
      obtain ⟨y1, hy1⟩ : ∃ y1 : Nat → Nat, y1 = fun p => if p = od k then v else y p := ⟨_, rfl⟩
      have y1k : y1 (od k) = v := by rw [hy1]; exact if_pos rfl
      have y1i : ∀ i, i < k → y1 (od i) = y (od i) := fun i hi => by rw [hy1]; exact if_neg (hinj i k hi hk)
      have hy' : ∀ i, i < k + 1 → upA a 18 (upd (a 18) (od k) (nI v)) 18 (od i) = nI (y1 (od i)) ∧ y1 (od i) < d ∧ (al (od i)).testBit (y1 (od i)) = true := fun i hi => by
        rw [upA_s]
        by_cases he : i = k
        · rw [he, upd_s, y1k]
          exact ⟨rfl, by omega, hb⟩
        · rw [hF i (by omega), y1i i (by omega)]
          exact hy i (by omega)
      have hS1 : SRH d w S al od g (upA a 18 (upd (a 18) (od k) (nI v))) := SRH_18 hS
      have hP1 : PFX d w S od k y1 := fun i1 i2 i3 h1 h2 h3 => (Al_cong (y1i i1 h1) (y1i i2 h2) (fun _ => y1i i3 h3)).mpr (hP i1 i2 i3 h1 h2 h3)
      obtain ⟨b1, e1, e2⟩ := fitX hS1.1 hw hS1.2.1 hS1.2.2.1 hk hS1.2.2.2.2 (y := y1) (fun i hi => ⟨(hy' i (by omega)).1, (hy' i (by omega)).2.1⟩)
      rw [e1, Option.bind_some]
      have agree : ∀ f : Nat → Nat, (∀ i, i < k → f (od i) = y (od i)) → f (od k) = v → ∀ i, i < k + 1 → f (od i) = y1 (od i) := fun f hfy e i hi => by
        by_cases he : i = k
        · rw [he, y1k, e]
        · rw [y1i i (by omega)]
          exact hfy i (by omega)
      cases hb1 : b1 with
      | false =>
        rw [if_pos (by decide)]
        refine next _ hF (fun f hf hfy e => ?_)
        have ha := agree f hfy e
        have : b1 = true := e2.mpr (fun i' k1 j' k2 => by
          have hl : lstD d k ≤ k := by unfold lstD; split <;> omega
          have o1 := (hS.2.2.2.2 i' (by omega)).2
          have o2 := (hS.2.2.2.2 j' (by omega)).2
          have q1 := ha k (by omega)
          have q2 := ha i' (by omega)
          have q3 := ha j' (by omega)
          exact ⟨(Al_cong q1 q2 (fun _ => q3)).mp (hf.2 _ _ _ hok o1 o2), (Al_cong q2 q1 (fun _ => q3)).mp (hf.2 _ _ _ o1 hok o2), (Al_cong q2 q3 (fun _ => q1)).mp (hf.2 _ _ _ o1 o2 hok)⟩)
        rw [this] at hb1
        cases hb1
      | true =>
        rw [if_neg (by decide)]
        obtain ⟨b2, f2, s1, s2, s3, s4⟩ := hs _ y1 hS1 hy' (PFX_s.mpr ⟨hP1, e2.mp hb1⟩)
        rw [show nI k + 1 = nI (k + 1) from nI_1 k, s1, Option.bind_some]
        have hF2 : ∀ i, i < k → f2 (od i) = a 18 (od i) := fun i hi => by
          rw [s2 i (by omega), upA_s, hF i hi]
        dsimp only
        cases hb2 : b2 with
        | false =>
          rw [if_pos (by decide), upA_2]
          refine next f2 hF2 (fun f hf hfy e => s3 hb2 f hf (agree f hfy e))
        | true =>
          rw [if_neg (by decide), upA_2]
          refine ⟨true, f2, rfl, hF2, fun q => (by cases q), fun _ => ?_⟩
          obtain ⟨y', l1, l2, l3, l4⟩ := s4 hb2
          refine ⟨y', l1, l2, fun i hi => (l3 i (by omega)).trans (y1i i hi), fun f hf hfy => ?_⟩
          have hv1 := hge f hf hfy
          by_cases e : f (od k) = v
          · exact l4 f hf (agree f hfy e)
          · refine Or.inr ⟨k, hk, fun j hj => ?_, ?_⟩
            · rw [hfy j hj, l3 j (by omega), y1i j hj]
            · rw [l3 k (by omega), y1k]
              omega
theorem icX {d w : Nat} {S : Nat → Nat → Prop} {al od : Nat → Nat} {g : xG} (hw : w ≤ 3) (hinj : ∀ i j, i < j → j < d ^ w → od i ≠ od j) (hsur : ∀ p, p < d ^ w → ∃ i, i < d ^ w ∧ od i = p) (hd : d = 2 ∨ d = 3) : ∀ (m k n : Nat), k + m = d ^ w → m < n → ICs (f_X8_isCompleted n) d w S al od g k
  | 0, k, n, hk, hn => by
    obtain ⟨n, rfl⟩ := pos_of hn
    intro a y hS hy hP
    have h27 := pw3 hd hw
    have hkk : k = d ^ w := by omega
    refine ⟨true, a 18, ?_, fun _ _ => rfl, fun q => (by cases q), fun _ => ⟨y, fun p hp => ?_, ⟨fun p hp => ?_, fun x z u hx hz hu => ?_⟩, fun _ _ => rfl, fun f hf hfy => Or.inl (fun i hi => hfy i (by omega))⟩⟩
    · show b_X8_isCompleted (f_X8_isCompleted n) g a (nI k) = _
      unfold b_X8_isCompleted
      rw [hS.2.1, if_neg (nI_nlt (by omega) (by omega)), upA_id]
      rfl
    · obtain ⟨i, h1, h2⟩ := hsur p hp
      rw [← h2]
      exact (hy i (by omega)).1
    · obtain ⟨i, h1, h2⟩ := hsur p hp
      rw [← h2]
      exact (hy i (by omega)).2
    · obtain ⟨i, h1, h2⟩ := hsur x hx
      obtain ⟨j, h3, h4⟩ := hsur z hz
      obtain ⟨l, h5, h6⟩ := hsur u hu
      rw [← h2, ← h4, ← h6]
      exact hP i j l (by omega) (by omega) (by omega)
  | m + 1, k, n, hk, hn => by
    obtain ⟨n, rfl⟩ := pos_of hn
    intro a y hS hy hP
    have h27 := pw3 hd hw
    have hs := icX (S := S) (al := al) (g := g) hw hinj hsur hd m (k + 1) n (by omega) (by omega)
    obtain ⟨b, f, q1, q2⟩ := ic21 hs (by omega) hw hinj (y := y) d 0 fu a (by omega) (fu_gt (by omega)) hS hy hP (fun f _ _ => Nat.zero_le _)
    refine ⟨b, f, ?_, q2⟩
    show b_X8_isCompleted (f_X8_isCompleted n) g a (nI k) = _
    unfold b_X8_isCompleted
    rw [hS.2.1, if_pos (nI_lt (by omega) (by omega)), at_in (by omega) (by decide), (hS.2.2.2.2 k (by omega)).1]
    exact q1
