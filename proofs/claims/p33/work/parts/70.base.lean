/-! Plain facts behind the walks: rows, bits, digits. -/
theorem fu_gt {k : Nat} (h : k < 1000000) : k < fu := h
theorem at_in {n i : Nat} {f : Nat → Int32} (h : i < n) (hn : n < 2 ^ 31) : atF n f (nI i) = f i := by
  unfold atF
  rw [if_neg (nI_pos (by omega)), if_neg (by show ¬ nI n ≤ nI i; exact nI_ge h hn), nI_clamp (by omega)]
theorem at_out {n i : Nat} {f : Nat → Int32} (h : n ≤ i) (hi : i < 2 ^ 31) : atF n f (nI i) = 0 := by
  unfold atF
  rw [if_neg (nI_pos hi), if_pos (by show nI n ≤ nI i; exact nI_le h hi)]
theorem put_in {n i : Nat} {f : Nat → Int32} {v : Int32} (h : i < n) (hn : n < 2 ^ 31) : putF n f (nI i) v = upd f i v := by
  unfold putF
  rw [if_neg (nI_pos (by omega)), if_neg (by show ¬ nI n ≤ nI i; exact nI_ge h hn), nI_clamp (by omega)]
theorem put_out {n i : Nat} {f : Nat → Int32} {v : Int32} (h : n ≤ i) (hi : i < 2 ^ 31) : putF n f (nI i) v = f := by
  unfold putF
  rw [if_neg (nI_pos hi), if_pos (by show nI n ≤ nI i; exact nI_le h hi)]
theorem upA_s (a : xA) (r : Nat) (f : Nat → Int32) : upA a r f r = f := by unfold upA; rw [if_pos rfl]
theorem upA_n (a : xA) {r j : Nat} (f : Nat → Int32) (h : j ≠ r) : upA a r f j = a j := by unfold upA; rw [if_neg h]
theorem upd_s (f : Nat → Int32) (k : Nat) (x : Int32) : upd f k x k = x := by unfold upd; rw [if_pos rfl]
theorem upd_n (f : Nat → Int32) {k j : Nat} (x : Int32) (h : j ≠ k) : upd f k x j = f j := by unfold upd; rw [if_neg h]
theorem lit_nI (n : Nat) : (OfNat.ofNat n : Int32) = nI n := rfl
theorem sh_l : ∀ n, n < 32 → ((nI n &&& 31).toBitVec.smod 32).toNat = n := by decide +kernel
theorem nI_and (a b : Nat) : nI a &&& nI b = nI (a &&& b) := by
  apply Int32.toBitVec_inj.mp
  simp [nI, BitVec.ofNat_and]
theorem nI_or (a b : Nat) : nI a ||| nI b = nI (a ||| b) := by
  apply Int32.toBitVec_inj.mp
  simp [nI, BitVec.ofNat_or]
theorem and1 (n : Nat) : n &&& 1 = n % 2 := Nat.and_one_is_mod n
theorem tb_mod (s m : Nat) : s / 2 ^ m % 2 = if s.testBit m then 1 else 0 := by
  rw [Nat.testBit_eq_decide_div_mod_eq]
  have h := Nat.mod_two_eq_zero_or_one (s / 2 ^ m)
  by_cases h1 : s / 2 ^ m % 2 = 1
  · simp [h1]
  · have h2 : s / 2 ^ m % 2 = 0 := by omega
    simp [h2]
theorem isIn_nI {m s : Nat} (hm : m < 32) (hs : s < 2 ^ 31) : isInF (nI m) (nI s) = if s.testBit m then 1 else 0 := by
  unfold isInF
  have e1 : nI s >>> (nI m &&& 31) = nI (s / 2 ^ m) := pk_shrN hs _ m (sh_l m hm)
  have e2 : nI (s / 2 ^ m) &&& 1 = nI (s / 2 ^ m % 2) := by
    have := nI_and (s / 2 ^ m) 1
    rw [and1] at this
    exact this
  rw [e1, e2, tb_mod]
  cases hb : s.testBit m
  · simp [nI]
  · rw [if_pos rfl, if_neg (by decide)]; rfl
theorem shl_nI {m : Nat} (hm : m < 31) : (1 : Int32) <<< (nI m &&& 31) = nI (2 ^ m) := by
  have h := pk_shlN (n := 1) (nI m &&& 31) m (sh_l m (by omega)) (by
    have : 2 ^ m < 2 ^ 31 := Nat.pow_lt_pow_right (by decide) hm
    omega)
  rw [Nat.one_mul] at h
  exact h
theorem nI_inj {a b : Nat} (ha : a < 2 ^ 31) (hb : b < 2 ^ 31) (h : nI a = nI b) : a = b := (nI_eq ha hb).mp h
/-- the bits of one set that are not in another -/
def bdiff (u s : Nat) : Nat := u ^^^ (u &&& s)
theorem bdiff_bit (u s i : Nat) : (bdiff u s).testBit i = (u.testBit i && !s.testBit i) := by
  unfold bdiff
  rw [Nat.testBit_xor, Nat.testBit_and]
  cases u.testBit i <;> cases s.testBit i <;> rfl
theorem bdiff_le (u s : Nat) {n : Nat} (h : u < 2 ^ n) : bdiff u s < 2 ^ n := Nat.xor_lt_two_pow h (Nat.lt_of_le_of_lt Nat.and_le_left h)
theorem nI_diff (u s : Nat) : nI u &&& (nI s ^^^ (-1)) = nI (bdiff u s) := by
  apply Int32.toBitVec_inj.mp
  apply BitVec.eq_of_getLsbD_eq
  intro i hi
  have e1 : (nI u &&& (nI s ^^^ (-1))).toBitVec = BitVec.ofNat 32 u &&& (BitVec.ofNat 32 s ^^^ BitVec.allOnes 32) := rfl
  have e2 : (nI (bdiff u s)).toBitVec = BitVec.ofNat 32 (bdiff u s) := rfl
  rw [e1, e2, BitVec.getLsbD_and, BitVec.getLsbD_xor, BitVec.getLsbD_ofNat, BitVec.getLsbD_ofNat, BitVec.getLsbD_ofNat, BitVec.getLsbD_allOnes, bdiff_bit]
  simp [hi]
/-- what a loop gathers -/
def orS (f : Nat → Option Nat) : Nat → Nat
  | 0 => 0
  | n + 1 => orS f n ||| (match f n with | some c => 2 ^ c | none => 0)
theorem orS_bit (f : Nat → Option Nat) (c : Nat) : ∀ n, (orS f n).testBit c = true ↔ ∃ k, k < n ∧ f k = some c
  | 0 => by simp [orS]
  | n + 1 => by
    unfold orS
    rw [Nat.testBit_or, Bool.or_eq_true, orS_bit f c n]
    constructor
    · rintro (⟨k, h1, h2⟩ | h)
      · exact ⟨k, by omega, h2⟩
      · cases hf : f n with
        | none => rw [hf] at h; simp at h
        | some c1 =>
          rw [hf] at h
          have h : (2 ^ c1).testBit c = true := h
          rw [Nat.testBit_two_pow] at h
          have h : c1 = c := by simpa using h
          exact ⟨n, by omega, by rw [hf, h]⟩
    · rintro ⟨k, h1, h2⟩
      by_cases hk : k < n
      · exact Or.inl ⟨k, hk, h2⟩
      · have : k = n := by omega
        subst this
        rw [h2]
        exact Or.inr (Nat.testBit_two_pow_self ..)
theorem orS_lt (f : Nat → Option Nat) {N : Nat} : ∀ n, (∀ k c, k < n → f k = some c → c < N) → orS f n < 2 ^ N
  | 0, _ => Nat.two_pow_pos N
  | n + 1, h => by
    unfold orS
    refine Nat.or_lt_two_pow (orS_lt f n (fun k c hk => h k c (by omega))) ?_
    cases hf : f n with
    | none => exact Nat.two_pow_pos N
    | some c => exact Nat.pow_lt_pow_right (by decide) (h n c (by omega) hf)
theorem set_ext {x y : Nat} (h : ∀ i, x.testBit i = true ↔ y.testBit i = true) : x = y := Nat.eq_of_testBit_eq fun i => by
  have := h i
  cases hx : x.testBit i <;> cases hy : y.testBit i <;> simp_all
theorem bit_lt {x n i : Nat} (h : x < 2 ^ n) (hi : x.testBit i = true) : i < n := by
  rcases Nat.lt_or_ge i n with q | q
  · exact q
  · rw [Nat.testBit_lt_two_pow (Nat.lt_of_lt_of_le h (Nat.pow_le_pow_right (by decide) q))] at hi
    cases hi
/-- a digit -/
def dg (d c p : Nat) : Nat := c / d ^ p % d
theorem dg_lt {d : Nat} (h : 0 < d) (c p : Nat) : dg d c p < d := Nat.mod_lt _ h
theorem dg_0 (d c : Nat) : dg d c 0 = c % d := by simp [dg]
theorem dg_s (d c p : Nat) : dg d c (p + 1) = dg d (c / d) p := by
  unfold dg
  rw [Nat.pow_succ, Nat.mul_comm, ← Nat.div_div_eq_div_mul]
/-- a number out of its digits -/
def nm (d : Nat) (f : Nat → Nat) : Nat → Nat
  | 0 => 0
  | n + 1 => nm d f n + f n * d ^ n
theorem nm_lt {d : Nat} {f : Nat → Nat} : ∀ n, (∀ k, k < n → f k < d) → nm d f n < d ^ n
  | 0, _ => by simp [nm]
  | n + 1, h => by
    have h1 := nm_lt n (fun k hk => h k (by omega))
    have h2 := h n (by omega)
    unfold nm
    have h3 : f n * d ^ n ≤ (d - 1) * d ^ n := Nat.mul_le_mul_right _ (by omega)
    have h4 : d ^ (n + 1) = (d - 1) * d ^ n + d ^ n := by
      obtain ⟨e, rfl⟩ : ∃ e, d = e + 1 := ⟨d - 1, by omega⟩
      rw [Nat.pow_succ, Nat.mul_comm, Nat.add_mul, Nat.one_mul, Nat.add_sub_cancel]
    omega
theorem nm_cong {d : Nat} {f g : Nat → Nat} : ∀ {n : Nat}, (∀ k, k < n → f k = g k) → nm d f n = nm d g n
  | 0, _ => rfl
  | n + 1, h => by unfold nm; rw [nm_cong (fun k hk => h k (by omega)), h n (by omega)]
theorem nm_dg {d : Nat} {f : Nat → Nat} (hd : 0 < d) : ∀ n, (∀ k, k < n → f k < d) → ∀ p, p < n → dg d (nm d f n) p = f p
  | 0, _, p, hp => by omega
  | n + 1, h, p, hp => by
    have hl := nm_lt n (fun k hk => h k (by omega))
    have hpn : 0 < d ^ p := Nat.pow_pos hd
    unfold nm dg
    by_cases he : p = n
    · subst he
      rw [Nat.add_mul_div_right _ _ hpn, Nat.div_eq_of_lt hl, Nat.zero_add, Nat.mod_eq_of_lt (h p (by omega))]
    · have hlt : p < n := by omega
      have e1 : f n * d ^ n = d * (f n * d ^ (n - p - 1)) * d ^ p := by
        have : d ^ n = d ^ (n - p - 1) * d * d ^ p := by
          rw [← Nat.pow_succ, ← Nat.pow_add]; congr 1; omega
        rw [this]
        ac_rfl
      rw [e1, Nat.add_mul_div_right _ _ hpn, Nat.add_mul_mod_self_left]
      have := nm_dg hd n (fun k hk => h k (by omega)) p hlt
      unfold dg at this
      exact this
theorem dg_nm {d : Nat} (hd : 0 < d) : ∀ (n c : Nat), c < d ^ n → nm d (dg d c) n = c
  | 0, c, h => by simp [nm] at *; omega
  | n + 1, c, h => by
    unfold nm
    have h1 : c % d ^ n < d ^ n := Nat.mod_lt _ (Nat.pow_pos hd)
    have h2 := dg_nm hd n (c % d ^ n) h1
    have h3 : nm d (dg d c) n = nm d (dg d (c % d ^ n)) n := by
      refine nm_cong fun k hk => ?_
      unfold dg
      have e : d ^ n = d ^ k * d ^ (n - k) := by rw [← Nat.pow_add]; congr 1; omega
      rw [e, Nat.mod_mul_right_div_self]
      have : d ∣ d ^ (n - k) := ⟨d ^ (n - k - 1), by rw [← Nat.pow_succ']; congr 1; omega⟩
      rw [Nat.mod_mod_of_dvd _ this]
    rw [h3, h2]
    have h4 : dg d c n = c / d ^ n := by
      unfold dg
      rw [Nat.mod_eq_of_lt]
      rw [Nat.div_lt_iff_lt_mul (Nat.pow_pos hd), ← Nat.pow_succ']
      exact h
    rw [h4, Nat.mul_comm]
    exact Nat.mod_add_div c (d ^ n)
