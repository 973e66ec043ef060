/-! The search: what all relations allow. -/
def Fit (v : Int32) (S : Nat → Prop) (L : Nat) : Prop := (v = -1 ∧ ∀ t, t < L → S t) ∨ ∃ F, F < 2 ^ 9 ∧ v = nI F ∧ ∀ t, t < L → (F.testBit t = true ↔ S t)
theorem m1_and (W : Nat) : (-1 : Int32) &&& nI W = nI W := by
  apply Int32.toBitVec_inj.mp
  apply BitVec.eq_of_getLsbD_eq
  intro i hi
  have e1 : ((-1 : Int32) &&& nI W).toBitVec = BitVec.allOnes 32 &&& BitVec.ofNat 32 W := rfl
  have e2 : (nI W).toBitVec = BitVec.ofNat 32 W := rfl
  rw [e1, e2, BitVec.getLsbD_and, BitVec.getLsbD_allOnes]
  simp [hi]
theorem Fit_and {v : Int32} {S : Nat → Prop} {L W : Nat} (h : Fit v S L) (hW : W < 2 ^ 9) : Fit (v &&& nI W) (fun t => S t ∧ W.testBit t = true) L := by
  rcases h with ⟨e, h⟩ | ⟨F, h1, h2, h3⟩
  · refine Or.inr ⟨W, hW, by rw [e, m1_and], fun t ht => ⟨fun q => ⟨h t ht, q⟩, fun q => q.2⟩⟩
  · refine Or.inr ⟨F &&& W, Nat.and_lt_two_pow _ hW, by rw [h2, nI_and], fun t ht => ?_⟩
    rw [and_bit, h3 t ht]
theorem Fit_iff {v : Int32} {S S' : Nat → Prop} {L : Nat} (h : Fit v S L) (e : ∀ t, t < L → (S t ↔ S' t)) : Fit v S' L := by
  rcases h with ⟨q, h⟩ | ⟨F, h1, h2, h3⟩
  · exact Or.inl ⟨q, fun t ht => (e t ht).mp (h t ht)⟩
  · exact Or.inr ⟨F, h1, h2, fun t ht => (h3 t ht).trans (e t ht)⟩
theorem m1_in : ∀ t, t < 9 → isInF (nI t) (-1) = 1 := by decide
theorem Fit_in {v : Int32} {S : Nat → Prop} {L t : Nat} (h : Fit v S L) (hL : L ≤ 9) (ht : t < L) : ∃ b : Bool, isInF (nI t) v = (if b then 1 else 0) ∧ (b = true ↔ S t) := by
  rcases h with ⟨e, h⟩ | ⟨F, h1, h2, h3⟩
  · exact ⟨true, by rw [e, m1_in t (by omega)]; rfl, fun _ => h t ht, fun _ => rfl⟩
  · exact ⟨F.testBit t, by rw [h2, isIn_nI (by omega) (by omega)], h3 t ht⟩
/-- how wide, and how many tuples there are of the widest -/
theorem L9 {d : Nat} (hd : d = 2 ∨ d = 3) : d ^ (5 - d) ≤ 9 := by rcases hd with rfl | rfl <;> decide
theorem aw6 {d w n0 T : Nat} {g : xG} {a : xA} (hB : Bas d g a) (hn1 : 1 ≤ n0) (hn : n0 + d ≤ 5) (hT : T < 2 ^ (d ^ n0)) :
    ∀ (r i n acc : Nat), i + r = d ^ (5 - d - n0) → r < n → acc < 2 ^ 9 → (∀ t, acc.testBit t = true ↔ t < d ^ n0 * i ∧ T.testBit (t % d ^ n0) = true) →
    ∃ W, f_X8_ask_6 n g a (nI w) (nI n0) (nI T) (nI acc) (nI (d ^ n0 * i)) = Option.bind (f_X0_beginChoices g a (nI w) (nI T)) (fun u2 => f_X8_ask_65 fu u2.2.1 u2.2.2 (nI n0) (nI W) u2.1) ∧ W < 2 ^ 9 ∧ ∀ t, W.testBit t = true ↔ t < d ^ (5 - d) ∧ T.testBit (t % d ^ n0) = true
  | 0, i, n, acc, hi, hn', ha, h => by
    obtain ⟨n, rfl⟩ := pos_of hn'
    have hd := hB.1
    have h9 := L9 hd
    have e : d ^ n0 * i = d ^ (5 - d) := by
      rw [show i = d ^ (5 - d - n0) by omega, ← Nat.pow_add]
      congr 1
      omega
    rw [e] at h ⊢
    refine ⟨acc, ?_, ha, h⟩
    rw [e_X8_ask_6, wid hB, power_B hB (by omega), if_pos (nI_le (Nat.le_refl _) (by omega))]
  | r + 1, i, n, acc, hi, hn', ha, h => by
    obtain ⟨n, rfl⟩ := pos_of hn'
    have hd := hB.1
    have h9 := L9 hd
    have he0 := pwp hd n0
    have he9 := pw9 hd hn
    have he1 : 1 < d ^ n0 := by
      have : d ^ 1 ≤ d ^ n0 := Nat.pow_le_pow_right (by omega) hn1
      rw [Nat.pow_one] at this
      omega
    have el : d ^ n0 * d ^ (5 - d - n0) = d ^ (5 - d) := by
      rw [← Nat.pow_add]
      congr 1
      omega
    have hle : d ^ n0 * (i + 1) ≤ d ^ (5 - d) := by
      rw [← el]
      exact Nat.mul_le_mul_left _ (by omega)
    rw [Nat.mul_add, Nat.mul_one] at hle
    have hsh : T * 2 ^ (d ^ n0 * i) < 2 ^ 9 := by
      have h1 : T * 2 ^ (d ^ n0 * i) < 2 ^ (d ^ n0) * 2 ^ (d ^ n0 * i) := Nat.mul_lt_mul_of_pos_right hT (Nat.two_pow_pos _)
      rw [← Nat.pow_add] at h1
      exact Nat.lt_of_lt_of_le h1 (Nat.pow_le_pow_right (by decide) (by omega))
    obtain ⟨W, e1, e2⟩ := aw6 (w := w) hB hn1 hn hT r (i + 1) n (acc ||| T * 2 ^ (d ^ n0 * i)) (by omega) (by omega) (Nat.or_lt_two_pow ha hsh) (fun t => by
      rw [Nat.testBit_or, Bool.or_eq_true, h t, mul_bit, Nat.mul_add, Nat.mul_one]
      constructor
      · rintro (⟨q1, q2⟩ | ⟨q1, q2⟩)
        · exact ⟨by omega, q2⟩
        · have hlt := bit_lt hT q2
          have e3 : t % d ^ n0 = t - d ^ n0 * i := by
            rw [show t = d ^ n0 * i + (t - d ^ n0 * i) by omega, Nat.mul_add_mod, Nat.mod_eq_of_lt hlt]
            omega
          exact ⟨by omega, by rw [e3]; exact q2⟩
      · rintro ⟨q1, q2⟩
        by_cases hlt : t < d ^ n0 * i
        · exact Or.inl ⟨hlt, q2⟩
        · have e3 : t % d ^ n0 = t - d ^ n0 * i := by
            have e4 : t = d ^ n0 * i + (t - d ^ n0 * i) := by omega
            have e5 : (d ^ n0 * i + (t - d ^ n0 * i)) % d ^ n0 = t - d ^ n0 * i := by
              rw [Nat.mul_add_mod, Nat.mod_eq_of_lt (by omega)]
            rw [← e4] at e5
            exact e5
          exact Or.inr ⟨by omega, by rw [← e3]; exact q2⟩)
    refine ⟨W, ?_, e2⟩
    rw [Nat.mul_add, Nat.mul_one] at e1
    rw [e_X8_ask_6, wid hB, power_B hB (by omega), power_B hB (by omega), if_neg (nI_ge (by omega) (by omega)), if_pos (show (1 : Int32) < nI (d ^ n0) from nI_lt (a := 1) he1 (by omega)), shlF (by omega) (Nat.lt_of_lt_of_le hsh (by decide)), nI_or, nI_add]
    exact e1
/-- a column of some tuples -/
def col (d w : Nat) (x : Nat → Nat) (j : Nat) : Nat := nm d (fun p => dg d (x p) j) w
theorem col_lt {d w : Nat} {x : Nat → Nat} {j : Nat} (hd : 0 < d) : col d w x j < d ^ w := nm_lt w (fun _ _ => dg_lt hd _ _)
def kN (d N x y z : Nat) : Nat := x + N * y + (if d = 2 then N * N * z else 0)
def kC (d w n0 : Nat) (x : Nat → Nat) : Nat := kN d (d ^ w) (col d w x 0) (col d w x (min 1 (n0 - 1))) (col d w x (min 2 (n0 - 1)))
theorem kN_lt {d w x y z : Nat} (hd : d = 2 ∨ d = 3) (hw : w ≤ 3) (hx : x < d ^ w) (hy : y < d ^ w) (hz : z < d ^ w) : kN d (d ^ w) x y z < 729 := by
  unfold kN
  have h : w = 0 ∨ w = 1 ∨ w = 2 ∨ w = 3 := by omega
  rcases hd with rfl | rfl
  · rw [if_pos rfl]
    rcases h with rfl | rfl | rfl | rfl <;> omega
  · rw [if_neg (by decide)]
    rcases h with rfl | rfl | rfl | rfl <;> omega
theorem keyX {d w x y z : Nat} {g : xG} {a : xA} (hB : Bas d g a) (h5 : g 5 = nI (d ^ w)) : t_X8_keyOf g a (nI x) (nI y) (nI z) = nI (kN d (d ^ w) x y z) := by
  unfold t_X8_keyOf kN
  rw [wid hB, h5]
  rcases hB.1 with rfl | rfl
  · rw [if_neg (by decide), if_pos rfl, pk_mul, nI_add, pk_mul, pk_mul, nI_add]
  · rw [if_pos (by decide), if_neg (by decide), pk_mul, nI_add]
    exact nI_add _ 0
theorem mn1 {n0 : Nat} (h : 1 ≤ n0) (h3 : n0 ≤ 3) : (if (nI n0 - 1) < 1 then (nI n0 - 1) else 1) = nI (min 1 (n0 - 1)) ∧ (if (nI n0 - 1) < 2 then (nI n0 - 1) else 2) = nI (min 2 (n0 - 1)) := by
  rcases (by omega : n0 = 1 ∨ n0 = 2 ∨ n0 = 3) with rfl | rfl | rfl <;> decide
theorem ak65 {d w m n0 W : Nat} {mem : Nat → Nat} {g : xG} (hn1 : 1 ≤ n0) (hn : n0 ≤ 3) (hm : m ≤ 27) (hw1 : 1 ≤ w) (hw : w ≤ 3) (h5 : g 5 = nI (d ^ w)) (h2 : g 2 = nI m) (h3 : g 3 = nI w) (hW : W < 2 ^ 9) :
    ∀ (r n : Nat) (a : xA) (S : Nat → Nat → Prop) (cnt : Nat → Nat), r < n → r ≤ m ^ w → Bas d g a → (∀ i, i < m → a 8 i = nI (sp d (mem i))) → (0 < r → (∀ q, q < w → a 9 q = nI (cnt q) ∧ cnt q < m) ∧ nm m cnt w = m ^ w - r) → (∀ k, k < 729 → Fit (a 15 k) (S k) (d ^ (5 - d))) →
    ∃ a', f_X8_ask_65 n g a (nI n0) (nI W) (nI r) = some (g, a') ∧ Sm [] [9, 15] g a g a' ∧ ∀ k, k < 729 → Fit (a' 15 k) (fun t => S k t ∧ ∀ y : Nat → Nat, (∀ p, p < w → y p < m) → m ^ w - r ≤ nm m y w → kC d w n0 (fun p => mem (y p)) = k → W.testBit t = true) (d ^ (5 - d))
  | 0, n, a, S, cnt, hn', hr, hB, h8, h9, hF => by
    obtain ⟨n, rfl⟩ := pos_of hn'
    refine ⟨a, ?_, Sm_rfl, fun k hk => Fit_iff (hF k hk) (fun t _ => ⟨fun q => ⟨q, fun y hy h1 _ => ?_⟩, fun q => q.1⟩)⟩
    · rw [e_X8_ask_65, if_pos (show nI 0 ≤ 0 by decide)]
    · exact absurd (nm_lt w hy) (by omega)
  | r + 1, n, a, S, cnt, hn', hr, hB, h8, h9, hF => by
    obtain ⟨n, rfl⟩ := pos_of hn'
    have hd := hB.1
    have hd0 : 0 < d := by omega
    have hmw := mw3 hm hw
    obtain ⟨h9a, h9b⟩ := h9 (by omega)
    obtain ⟨cnt', f, e1, e2, e3⟩ := nextC (d := d) (mem := mem) hw hm hB.2.1 h2 h3 h8 h9a
    have hB1 : Bas d g (upA a 9 f) := Bas_fr hB rfl (upA_n _ _ (by decide)) (upA_n _ _ (by decide))
    have hX := nm_sp_lt hd hw (fun q => mem (cnt q))
    have hc : ∀ j, j < 4 → t_X4_onPlace g (upA a 9 f) (nI (nm d (fun q => sp d (mem (cnt q))) w)) (nI j) = nI (col d w (fun p => mem (cnt p)) j) := fun j hj => by
      rw [onPl (by omega) (by omega), nm_sp hd hw (fun q => mem (cnt q)) hj]
      rfl
    have hk : kC d w n0 (fun p => mem (cnt p)) < 729 := kN_lt hd hw (col_lt hd0) (col_lt hd0) (col_lt hd0)
    obtain ⟨m1, m2⟩ := mn1 hn1 hn
    have ek : t_X8_keyOf g (upA a 9 f) (nI (col d w (fun p => mem (cnt p)) 0)) (nI (col d w (fun p => mem (cnt p)) (min 1 (n0 - 1)))) (nI (col d w (fun p => mem (cnt p)) (min 2 (n0 - 1)))) = nI (kC d w n0 (fun p => mem (cnt p))) := keyX hB1 h5
    obtain ⟨a', h4, h6, h7⟩ := ak65 hn1 hn hm hw1 hw h5 h2 h3 hW r n (upA (upA a 9 f) 15 (upd (a 15) (kC d w n0 (fun p => mem (cnt p))) (a 15 (kC d w n0 (fun p => mem (cnt p))) &&& nI W))) (fun k t => S k t ∧ (kC d w n0 (fun p => mem (cnt p)) = k → W.testBit t = true)) cnt' (by omega) (by omega) (Bas_fr hB1 rfl (upA_n _ _ (by decide)) (upA_n _ _ (by decide))) (fun i hi => by
        rw [upA_n _ _ (by decide), upA_n _ _ (by decide)]
        exact h8 i hi) (fun h => by
        refine ⟨fun q hq => ?_, ?_⟩
        · rw [upA_n _ _ (by decide), upA_s]
          exact e2 q hq
        · rw [e3 (by omega), h9b]
          omega) (fun k hk' => by
        rw [upA_s]
        by_cases he : k = kC d w n0 (fun p => mem (cnt p))
        · rw [he, upd_s]
          exact Fit_iff (Fit_and (hF _ hk) hW) (fun t _ => ⟨fun q => ⟨q.1, fun _ => q.2⟩, fun q => ⟨q.1, q.2 rfl⟩⟩)
        · rw [upd_n _ _ he]
          exact Fit_iff (hF k hk') (fun t _ => ⟨fun q => ⟨q, fun e => absurd e.symm he⟩, fun q => q.1⟩))
    refine ⟨a', ?_, Sm_tr (Sm_A (Sm_A Sm_rfl (by decide)) (by decide)) h6, fun k hk' => Fit_iff (h7 k hk') (fun t _ => ⟨fun q => ⟨q.1.1, fun y hy q1 q2 => ?_⟩, fun q => ⟨⟨q.1, fun e => ?_⟩, fun y hy q1 q2 => q.2 y hy (by omega) q2⟩⟩)⟩
    · rw [e_X8_ask_65, if_neg (nI_nle (by omega) (by omega)), e1, Option.bind_some]
      dsimp only
      rw [m1, m2, show t_X4_onPlace g (upA a 9 f) (nI (nm d (fun q => sp d (mem (cnt q))) w)) 0 = _ from hc 0 (by decide), hc (min 1 (n0 - 1)) (by omega), hc (min 2 (n0 - 1)) (by omega), ek, upA_n _ _ (by decide), at_in hk (by decide), put_in hk (by decide), pk_m1]
      exact h4
    · by_cases he : nm m y w = m ^ w - (r + 1)
      · have hc' : ∀ p, p < w → cnt p = y p := fun p hp => by
          have q3 := nm_dg (d := m) (f := cnt) (by have := hy p hp; omega) w (fun q hq => (h9a q hq).2) p hp
          have q4 := nm_dg (d := m) (f := y) (by have := hy p hp; omega) w hy p hp
          rw [he, ← h9b] at q4
          rw [← q3, q4]
        have hkk : kC d w n0 (fun p => mem (cnt p)) = kC d w n0 (fun p => mem (y p)) := by
          have hcol : ∀ j, col d w (fun p => mem (cnt p)) j = col d w (fun p => mem (y p)) j := fun j => nm_cong fun p hp => by
            show dg d (mem (cnt p)) j = dg d (mem (y p)) j
            rw [hc' p hp]
          unfold kC
          rw [hcol, hcol, hcol]
        exact q.1.2 (hkk.trans q2)
      · exact q.2 y hy (by omega) q2
    · exact q.2 cnt (fun p hp => (h9a p hp).2) (by omega) e
theorem askX {d w n0 T : Nat} {g : xG} {a : xA} {S : Nat → Nat → Prop} (hB : Bas d g a) (hw1 : 1 ≤ w) (hw : w ≤ 3) (hn1 : 1 ≤ n0) (hn : n0 + d ≤ 5) (hT : T < 2 ^ (d ^ n0)) (h5 : g 5 = nI (d ^ w)) (hF : ∀ k, k < 729 → Fit (a 15 k) (S k) (d ^ (5 - d))) :
    ∃ g' a', f_X8_ask g a (nI w) (nI n0) (nI T) = some (g', a') ∧ Sm [2, 3] [8, 9, 15] g a g' a' ∧ ∀ k, k < 729 → Fit (a' 15 k) (fun t => S k t ∧ ∀ x : Nat → Nat, (∀ p, p < w → T.testBit (x p) = true) → kC d w n0 x = k → T.testBit (t % d ^ n0) = true) (d ^ (5 - d)) := by
  have hd := hB.1
  have h9 := L9 hd
  obtain ⟨W, e1, e2, e3⟩ := aw6 (w := w) hB hn1 hn hT (d ^ (5 - d - n0)) 0 fu 0 (by omega) (fu_gt (by have := pw9 hd (w := 5 - d - n0) (by omega); omega)) (by decide) (fun t => by
    rw [Nat.zero_testBit]
    exact ⟨fun q => (by cases q), fun q => by omega⟩)
  obtain ⟨m, mem, g1, a1, b1, b2, b3, b4, b5, b6, b7, b8⟩ := beginC (d := d) (s := T) hw (Nat.lt_of_lt_of_le hT (Nat.pow_le_pow_right (by decide) (by have := pw9 hd hn; omega))) hB
  have hmw := mw3 b3 hw
  obtain ⟨a2, c1, c2, c3⟩ := ak65 (W := W) (mem := mem) hn1 (by omega) b3 hw1 hw ((b2.1 5 (by decide)).trans h5) b4 b5 e2 (m ^ w) fu a1 S (fun _ => 0) (fu_gt (by omega)) (Nat.le_refl _) (Bas_sm hB b2) (fun i hi => (b6 i hi).2.2) (fun h => by
    refine ⟨fun q hq => ⟨b8 q hq, ?_⟩, ?_⟩
    · rcases Nat.eq_zero_or_pos m with h0 | h0
      · subst h0
        rw [Nat.zero_pow hw1] at h
        omega
      · exact h0
    · rw [nm_zero]
      omega) (fun k hk => by rw [congrFun (b2.2 15 (by decide)) k]; exact hF k hk)
  refine ⟨g1, a2, ?_, Sm_tr (Sm_mo b2 (by decide) (by decide)) (Sm_mo c2 (by decide) (by decide)), fun k hk => Fit_iff (c3 k hk) (fun t ht => ⟨fun q => ⟨q.1, fun x hx hk' => ?_⟩, fun q => ⟨q.1, fun y hy _ hk' => ?_⟩⟩)⟩
  · unfold f_X8_ask
    rw [Nat.mul_zero] at e1
    refine Eq.trans e1 ?_
    rw [b1, Option.bind_some]
    exact c1
  · have : ∀ p, ∃ i, p < w → i < m ∧ mem i = x p := fun p => by
      by_cases hp : p < w
      · obtain ⟨i, h1, h2⟩ := b7 (x p) (hx p hp)
        exact ⟨i, fun _ => ⟨h1, h2⟩⟩
      · exact ⟨0, fun h => absurd h hp⟩
    have hkk : kC d w n0 (fun p => mem (Classical.choose (this p))) = kC d w n0 x := by
      have hcol : ∀ j, col d w (fun p => mem (Classical.choose (this p))) j = col d w x j := fun j => nm_cong fun p hp => by
        show dg d (mem (Classical.choose (this p))) j = dg d (x p) j
        rw [(Classical.choose_spec (this p) hp).2]
      unfold kC
      rw [hcol, hcol, hcol]
    exact ((e3 t).mp (q.2 (fun p => Classical.choose (this p)) (fun p hp => (Classical.choose_spec (this p) hp).1) (by omega) (hkk.trans hk'))).2
  · exact (e3 t).mpr ⟨ht, q.2 (fun p => mem (y p)) (fun p hp => (b6 _ (hy p hp)).2.1) hk'⟩
/-- what a key asks of a tuple -/
def SK (d R w lo : Nat) (pl tu : Nat → Nat) (k t : Nat) : Prop := ∀ r, r < R → r ≠ lo → ∀ x : Nat → Nat, (∀ p, p < w → (tu r).testBit (x p) = true) → kC d w (pl r) x = k → (tu r).testBit (t % d ^ pl r) = true
theorem allV2 {d : Nat} {g : xG} {a : xA} (hB : Bas d g a) : t_X4_allValues g a = nI (2 ^ d - 1) := allV hB
theorem sa2 {d : Nat} {g : xG} : ∀ (r p n : Nat) (a : xA), p + r = 27 → r < n → Bas d g a → (∀ v, v < p → a 16 v = nI (2 ^ d - 1)) → ∃ f, f_X8_allowAll_2 g n a (nI p) = some (upA a 16 f) ∧ ∀ v, v < 27 → f v = nI (2 ^ d - 1)
  | 0, p, n, a, hp, hn, hB, h => by
    obtain ⟨n, rfl⟩ := pos_of hn
    refine ⟨a 16, ?_, fun v hv => h v (by omega)⟩
    rw [e_X8_allowAll_2, if_pos (show (27 : Int32) ≤ nI p from nI_le (a := 27) (by omega) (by omega)), upA_id]
  | r + 1, p, n, a, hp, hn, hB, h => by
    obtain ⟨n, rfl⟩ := pos_of hn
    obtain ⟨f, e1, e2⟩ := sa2 (d := d) r (p + 1) n (upA a 16 (upd (a 16) p (nI (2 ^ d - 1)))) (by omega) (by omega) (Bas_fr hB rfl (upA_n _ _ (by decide)) (upA_n _ _ (by decide))) (fun v hv => by
      rw [upA_s]
      by_cases he : v = p
      · rw [he, upd_s]
      · rw [upd_n _ _ he]; exact h v (by omega))
    rw [upA_2] at e1
    refine ⟨f, ?_, e2⟩
    rw [e_X8_allowAll_2, if_neg (show ¬ (27 : Int32) ≤ nI p from nI_ge (a := p) (b := 27) (by omega) (by decide)), ck_t (inB_t (by omega) (by decide)), nI_clamp (by omega), allV hB, show nI p + 1 = nI (p + 1) from nI_1 p]
    exact e1
theorem allowS {d : Nat} {g : xG} {a : xA} (hB : Bas d g a) : ∃ f, f_X8_allowAll g a = some (upA a 16 f) ∧ ∀ v, v < 27 → f v = nI (2 ^ d - 1) := sa2 27 0 fu a rfl (fu_gt (by omega)) hB (fun v hv => by omega)
theorem sb38 {d R w lo : Nat} {pl tu : Nat → Nat} {lv : Int32} (hw1 : 1 ≤ w) (hw : w ≤ 3) (hlv : ∀ k, k < 8 → (nI k = lv ↔ k = lo)) :
    ∀ (r k n : Nat) (g : xG) (a : xA), k + r = R → r < n → Bas d g a → RX d R pl tu g a → g 5 = nI (d ^ w) → (∀ κ, κ < 729 → Fit (a 15 κ) (SK d k w lo pl tu κ) (d ^ (5 - d))) →
    ∃ g' a', f_X8_begin_38 n g a (nI w) lv (nI k) = some (g', a') ∧ Sm [2, 3] [8, 9, 15, 16] g a g' a' ∧ (∀ κ, κ < 729 → Fit (a' 15 κ) (SK d R w lo pl tu κ) (d ^ (5 - d))) ∧ ∀ v, v < 27 → a' 16 v = nI (2 ^ d - 1)
  | 0, k, n, g, a, hk, hn, hB, hR, h5, hF => by
    obtain ⟨n, rfl⟩ := pos_of hn
    have hR8 := hR.1
    have e : k = R := by omega
    subst e
    obtain ⟨f, e1, e2⟩ := allowS hB
    refine ⟨g, upA a 16 f, ?_, Sm_A Sm_rfl (by decide), fun κ hκ => by rw [upA_n _ _ (by decide)]; exact hF κ hκ, fun v hv => by rw [upA_s]; exact e2 v hv⟩
    rw [e_X8_begin_38, hR.2.1, if_pos (nI_le (Nat.le_refl _) (by omega)), e1, Option.bind_some]
  | r + 1, k, n, g, a, hk, hn, hB, hR, h5, hF => by
    obtain ⟨n, rfl⟩ := pos_of hn
    have hR8 := hR.1
    obtain ⟨r1, r3, r5, r6, r7⟩ := hR.2.2 k (by omega)
    rw [e_X8_begin_38, hR.2.1, if_neg (nI_ge (by omega) (by omega)), show nI k + 1 = nI (k + 1) from nI_1 k]
    by_cases he : k = lo
    · rw [if_pos ((hlv k (by omega)).mpr he)]
      refine sb38 hw1 hw hlv r (k + 1) n g a (by omega) (by omega) hB hR h5 (fun κ hκ => Fit_iff (hF κ hκ) (fun t _ => ⟨fun q r' q1 q2 => q r' (by omega) q2, fun q r' q1 q2 => q r' (by omega) q2⟩))
    · rw [if_neg (fun h => he ((hlv k (by omega)).mp h)), plOf (by omega) r1, tuOf (by omega) r3]
      obtain ⟨g1, a1, e1, e2, e3⟩ := askX hB hw1 hw r5 r6 r7 h5 hF
      obtain ⟨g2, a2, e4, e5, e6, e7⟩ := sb38 hw1 hw hlv r (k + 1) n g1 a1 (by omega) (by omega) (Bas_sm hB e2) (RX_sm hR e2) ((e2.1 5 (by decide)).trans h5) (fun κ hκ => Fit_iff (e3 κ hκ) (fun t _ => ⟨fun q r' q1 q2 => by
        by_cases hr : r' = k
        · rw [hr]; exact q.2
        · exact q.1 r' (by omega) q2, fun q => ⟨fun r' q1 q2 => q r' (by omega) q2, q k (by omega) he⟩⟩))
      refine ⟨g2, a2, ?_, Sm_tr (Sm_mo e2 (by decide) (by decide)) e5, e6, e7⟩
      rw [e1, Option.bind_some]
      exact e4
theorem sb14 {d R w lo : Nat} {pl tu : Nat → Nat} {lv : Int32} {g : xG} (hw1 : 1 ≤ w) (hw : w ≤ 3) (hlv : ∀ k, k < 8 → (nI k = lv ↔ k = lo)) (h5 : g 5 = nI (d ^ w)) :
    ∀ (r k n : Nat) (a : xA), k + r = 729 → r < n → Bas d g a → RX d R pl tu g a → (∀ κ, κ < k → a 15 κ = -1) →
    ∃ g' a', f_X8_begin_14 n g a (nI w) lv (nI k) = some (g', a') ∧ Sm [2, 3] [8, 9, 15, 16] g a g' a' ∧ (∀ κ, κ < 729 → Fit (a' 15 κ) (SK d R w lo pl tu κ) (d ^ (5 - d))) ∧ ∀ v, v < 27 → a' 16 v = nI (2 ^ d - 1)
  | 0, k, n, a, hk, hn, hB, hR, h => by
    obtain ⟨n, rfl⟩ := pos_of hn
    have := sb38 hw1 hw hlv R 0 fu g a (by omega) (fu_gt (by have := hR.1; omega)) hB hR h5 (fun κ hκ => Or.inl ⟨h κ (by omega), fun t _ r' q => by omega⟩)
    rw [e_X8_begin_14, if_pos (show (729 : Int32) ≤ nI k from nI_le (a := 729) (by omega) (by omega))]
    exact this
  | r + 1, k, n, a, hk, hn, hB, hR, h => by
    obtain ⟨n, rfl⟩ := pos_of hn
    have s1 : Sm [2, 3] [8, 9, 15, 16] g a g (upA a 15 (upd (a 15) k (-1))) := Sm_A Sm_rfl (by decide)
    obtain ⟨g1, a1, e1, e2, e3⟩ := sb14 hw1 hw hlv h5 r (k + 1) n (upA a 15 (upd (a 15) k (-1))) (by omega) (by omega) (Bas_sm hB s1) (RX_sm hR s1) (fun κ hκ => by
      rw [upA_s]
      by_cases he : κ = k
      · rw [he, upd_s]
      · rw [upd_n _ _ he]; exact h κ (by omega))
    refine ⟨g1, a1, ?_, Sm_tr s1 e2, e3⟩
    rw [e_X8_begin_14, if_neg (show ¬ (729 : Int32) ≤ nI k from nI_ge (a := k) (b := 729) (by omega) (by decide)), ck_t (inB_t (by omega) (by decide)), nI_clamp (by omega), show nI k + 1 = nI (k + 1) from nI_1 k]
    exact e1
theorem beginS {d R w lo : Nat} {pl tu : Nat → Nat} {lv : Int32} {g : xG} {a : xA} (hw1 : 1 ≤ w) (hw : w ≤ 3) (hlv : ∀ k, k < 8 → (nI k = lv ↔ k = lo)) (hB : Bas d g a) (hR : RX d R pl tu g a) :
    ∃ g' a', f_X8_begin g a (nI w) lv = some (g', a') ∧ Sm [2, 3, 5] [8, 9, 15, 16] g a g' a' ∧ g' 5 = nI (d ^ w) ∧ (∀ κ, κ < 729 → Fit (a' 15 κ) (SK d R w lo pl tu κ) (d ^ (5 - d))) ∧ ∀ v, v < 27 → a' 16 v = nI (2 ^ d - 1) := by
  have s1 : Sm [2, 3, 5] [8, 9, 15, 16] g a (upd g 5 (nI (d ^ w))) a := Sm_G Sm_rfl (by decide)
  obtain ⟨g1, a1, e1, e2, e3, e4⟩ := sb14 (g := upd g 5 (nI (d ^ w))) hw1 hw hlv (upd_s ..) 729 0 fu a rfl (fu_gt (by omega)) (Bas_sm hB s1) (RX_sm hR s1) (fun κ hκ => by omega)
  refine ⟨g1, a1, ?_, Sm_tr s1 (Sm_mo e2 (by decide) (by decide)), (e2.1 5 (by decide)).trans (upd_s ..), e3, e4⟩
  unfold f_X8_begin
  rw [power_B hB (by omega)]
  exact e1
