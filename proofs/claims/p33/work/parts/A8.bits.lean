/-! How many bits a number of up to 32 bits has, as the JDK counts them. -/
theorem tb_split {u v : Nat} (hu : u < 256) (i : Nat) : (u + 256 * v).testBit i = if i < 8 then u.testBit i else v.testBit (i - 8) := by
  rw [Nat.testBit_eq_decide_div_mod_eq]
  by_cases h : i < 8
  · rw [if_pos h, Nat.testBit_eq_decide_div_mod_eq]
    have e : u + 256 * v = u + 2 ^ i * (2 * (2 ^ (7 - i) * v)) := by
      have : 256 = 2 ^ i * (2 * 2 ^ (7 - i)) := by
        rw [← Nat.pow_succ', ← Nat.pow_add, show i + (7 - i + 1) = 8 by omega]
      rw [this, Nat.mul_assoc, Nat.mul_assoc]
    rw [e, Nat.add_mul_div_left _ _ (Nat.two_pow_pos i), Nat.add_mul_mod_self_left]
  · rw [if_neg h, Nat.testBit_eq_decide_div_mod_eq]
    have e : (u + 256 * v) / 2 ^ i = v / 2 ^ (i - 8) := by
      have : 2 ^ i = 256 * 2 ^ (i - 8) := by
        rw [show (256 : Nat) = 2 ^ 8 by decide, ← Nat.pow_add, show 8 + (i - 8) = i by omega]
      rw [this, ← Nat.div_div_eq_div_mul, Nat.add_mul_div_left _ _ (by decide), Nat.div_eq_of_lt hu, Nat.zero_add]
    rw [e]
theorem and_split {u v M N : Nat} (hu : u < 256) (hM : M < 256) : (u + 256 * v) &&& (M + 256 * N) = (u &&& M) + 256 * (v &&& N) := by
  refine Nat.eq_of_testBit_eq fun i => ?_
  rw [Nat.testBit_and, tb_split hu, tb_split hM, tb_split (Nat.lt_of_le_of_lt Nat.and_le_left hu)]
  by_cases h : i < 8
  · rw [if_pos h, if_pos h, if_pos h, Nat.testBit_and]
  · rw [if_neg h, if_neg h, if_neg h, Nat.testBit_and]
def p1_ (M x : Nat) : Nat := x - ((x / 2) &&& M)
def p2_ (M y : Nat) : Nat := (y &&& M) + ((y / 4) &&& M)
def p3_ (M z : Nat) : Nat := (z + z / 16) &&& M
theorem by_1 : ∀ b, b < 256 → ∀ ρ, ρ < 2 → (b / 2 + 128 * ρ) &&& 85 = (b / 2) &&& 85 ∧ (b / 2) &&& 85 ≤ b := by decide +kernel
theorem by_2 : ∀ b, b < 256 → ∀ ρ, ρ < 4 → (b / 4 + 64 * ρ) &&& 51 = (b / 4) &&& 51 := by decide +kernel
theorem by_3 : ∀ b, b < 69 → ∀ ρ, ρ < 5 → (b + b / 16 + 16 * ρ) &&& 15 = (b + b / 16) &&& 15 := by decide +kernel
theorem by_4 : ∀ b, b < 256 → p1_ 85 b < 256 ∧ p2_ 51 (p1_ 85 b) < 69 ∧ p2_ 51 (p1_ 85 b) % 16 < 5 ∧ p3_ 15 (p2_ 51 (p1_ 85 b)) = pc b 8 := by decide +kernel
theorem st_1 {b r M : Nat} (hb : b < 256) : p1_ (85 + 256 * M) (b + 256 * r) = p1_ 85 b + 256 * p1_ M r := by
  unfold p1_
  obtain ⟨h1, h2⟩ := by_1 b hb (r % 2) (Nat.mod_lt _ (by decide))
  have e : (b + 256 * r) / 2 = (b / 2 + 128 * (r % 2)) + 256 * (r / 2) := by omega
  have h3 : (r / 2) &&& M ≤ r / 2 := Nat.and_le_left
  rw [e, and_split (by omega) (by decide), h1]
  omega
theorem st_2 {b r M : Nat} (hb : b < 256) : p2_ (51 + 256 * M) (b + 256 * r) = p2_ 51 b + 256 * p2_ M r := by
  unfold p2_
  have h1 := by_2 b hb (r % 4) (Nat.mod_lt _ (by decide))
  have e : (b + 256 * r) / 4 = (b / 4 + 64 * (r % 4)) + 256 * (r / 4) := by omega
  rw [e, and_split hb (by decide), and_split (by omega) (by decide), h1]
  omega
theorem st_3 {b r M : Nat} (hb : b < 69) (hr : r % 16 < 5) : p3_ (15 + 256 * M) (b + 256 * r) = p3_ 15 b + 256 * p3_ M r := by
  unfold p3_
  have h1 := by_3 b hb (r % 16) hr
  have e : b + 256 * r + (b + 256 * r) / 16 = (b + b / 16 + 16 * (r % 16)) + 256 * (r + r / 16) := by omega
  rw [e, and_split (by omega) (by decide), h1]
theorem pc_split {b r : Nat} (hb : b < 256) : ∀ n, pc (b + 256 * r) (8 + n) = pc b 8 + pc r n
  | 0 => by
    have key : ∀ m, m ≤ 8 → pc (b + 256 * r) m = pc b m := by
      intro m
      induction m with
      | zero => intro _; rfl
      | succ m ih =>
        intro h
        show pc (b + 256 * r) m + (if (b + 256 * r).testBit m then 1 else 0) = pc b m + (if b.testBit m then 1 else 0)
        rw [ih (by omega), tb_split hb, if_pos (show m < 8 by omega)]
    exact key 8 (Nat.le_refl _)
  | n + 1 => by
    show pc (b + 256 * r) (8 + n) + (if (b + 256 * r).testBit (8 + n) then 1 else 0) = pc b 8 + (pc r n + (if r.testBit n then 1 else 0))
    rw [pc_split hb n, tb_split hb, if_neg (show ¬ 8 + n < 8 by omega), show 8 + n - 8 = n by omega]
    omega
theorem bcNat {x : Nat} (hx : x < 2 ^ 27) : p3_ 252645135 (p2_ 858993459 (p1_ 1431655765 x)) < 2 ^ 28 ∧ (∀ a4 a5, a4 = p3_ 252645135 (p2_ 858993459 (p1_ 1431655765 x)) + p3_ 252645135 (p2_ 858993459 (p1_ 1431655765 x)) / 256 → a5 = a4 + a4 / 65536 → a4 < 2 ^ 30 ∧ a5 < 2 ^ 30 ∧ a5 % 64 = pc x 31) := by
  obtain ⟨b0, r0, h0, e0⟩ : ∃ b r, b < 256 ∧ x = b + 256 * r := ⟨x % 256, x / 256, Nat.mod_lt _ (by decide), by omega⟩
  obtain ⟨b1, r1, h1, e1⟩ : ∃ b r, b < 256 ∧ r0 = b + 256 * r := ⟨r0 % 256, r0 / 256, Nat.mod_lt _ (by decide), by omega⟩
  obtain ⟨b2, b3, h2, e2⟩ : ∃ b r, b < 256 ∧ r1 = b + 256 * r := ⟨r1 % 256, r1 / 256, Nat.mod_lt _ (by decide), by omega⟩
  have h3 : b3 < 8 := by omega
  obtain ⟨f0, g0, k0, q0⟩ := by_4 b0 h0
  obtain ⟨f1, g1, k1, q1⟩ := by_4 b1 h1
  obtain ⟨f2, g2, k2, q2⟩ := by_4 b2 h2
  obtain ⟨f3, g3, k3, q3⟩ := by_4 b3 (by omega)
  have ex : x = b0 + 256 * (b1 + 256 * (b2 + 256 * b3)) := by rw [e0, e1, e2]
  have s1 : p1_ 1431655765 x = p1_ 85 b0 + 256 * (p1_ 85 b1 + 256 * (p1_ 85 b2 + 256 * p1_ 85 b3)) := by
    rw [ex, show (1431655765 : Nat) = 85 + 256 * (85 + 256 * (85 + 256 * 85)) by decide, st_1 h0, st_1 h1, st_1 h2]
  have s2 : p2_ 858993459 (p1_ 1431655765 x) = p2_ 51 (p1_ 85 b0) + 256 * (p2_ 51 (p1_ 85 b1) + 256 * (p2_ 51 (p1_ 85 b2) + 256 * p2_ 51 (p1_ 85 b3))) := by
    rw [s1, show (858993459 : Nat) = 51 + 256 * (51 + 256 * (51 + 256 * 51)) by decide, st_2 f0, st_2 f1, st_2 f2]
  have s3 : p3_ 252645135 (p2_ 858993459 (p1_ 1431655765 x)) = pc b0 8 + 256 * (pc b1 8 + 256 * (pc b2 8 + 256 * pc b3 8)) := by
    rw [s2, show (252645135 : Nat) = 15 + 256 * (15 + 256 * (15 + 256 * 15)) by decide, st_3 g0 (by omega), st_3 g1 (by omega), st_3 g2 k3, q0, q1, q2, q3]
  have c0 := pc_le b0 8
  have c1 := pc_le b1 8
  have c2 := pc_le b2 8
  have c3 := pc_le b3 8
  have ep : pc x 31 = pc b0 8 + (pc b1 8 + (pc b2 8 + pc b3 8)) := by
    rw [ex, show 31 = 8 + (8 + (8 + 7)) by decide, pc_split h0, pc_split h1, pc_split h2, ← pc_up (s := b3) (n := 7) (m := 8) (by omega) (by decide)]
  rw [s3, ep]
  clear s3 s2 s1 ep ex e0 e1 e2 f0 f1 f2 f3 g0 g1 g2 g3 k0 k1 k2 k3 q0 q1 q2 q3 hx h0 h1 h2 h3
  generalize pc b0 8 = y0 at *
  generalize pc b1 8 = y1 at *
  generalize pc b2 8 = y2 at *
  generalize pc b3 8 = y3 at *
  refine ⟨by omega, fun a4 a5 h4 h5 => ?_⟩
  have d1 : (y0 + 256 * (y1 + 256 * (y2 + 256 * y3))) / 256 = y1 + 256 * (y2 + 256 * y3) := by omega
  rw [d1] at h4
  have d2 : a4 / 65536 = (y2 + y3) + 256 * y3 := by omega
  rw [d2] at h5
  refine ⟨by omega, by omega, by omega⟩
def j1_ (v : Int32) : Int32 := v - (((v.toUInt32 >>> ((1 : Int32).toUInt32 &&& Int32.toUInt32 31)).toInt32) &&& 1431655765)
def j2_ (v : Int32) : Int32 := (v &&& 858993459) + (((v.toUInt32 >>> ((2 : Int32).toUInt32 &&& Int32.toUInt32 31)).toInt32) &&& 858993459)
def j3_ (v : Int32) : Int32 := (v + ((v.toUInt32 >>> ((4 : Int32).toUInt32 &&& Int32.toUInt32 31)).toInt32)) &&& 252645135
def j4_ (v : Int32) : Int32 := v + ((v.toUInt32 >>> ((8 : Int32).toUInt32 &&& Int32.toUInt32 31)).toInt32)
def j5_ (v : Int32) : Int32 := v + ((v.toUInt32 >>> ((16 : Int32).toUInt32 &&& Int32.toUInt32 31)).toInt32)
theorem bc27 {g : xG} {a : xA} {x : Nat} (hx : x < 2 ^ 27) : t_J6_bitCount_0f7a4 g a (nI x) = nI (pc x 31) := by
  have e : t_J6_bitCount_0f7a4 g a (nI x) = (j5_ (j4_ (j3_ (j2_ (j1_ (nI x)))))) &&& 63 := rfl
  obtain ⟨h1, h2⟩ := bcNat hx
  obtain ⟨h3, h4, h5⟩ := h2 _ _ rfl rfl
  have le1 : p1_ 1431655765 x ≤ x := Nat.sub_le ..
  have le2 : p2_ 858993459 (p1_ 1431655765 x) < 2 ^ 32 := by
    have k1 : (p1_ 1431655765 x) &&& 858993459 ≤ p1_ 1431655765 x := Nat.and_le_left
    have k2 : ((p1_ 1431655765 x) / 4) &&& 858993459 ≤ (p1_ 1431655765 x) / 4 := Nat.and_le_left
    unfold p2_
    omega
  have s1 : j1_ (nI x) = nI (p1_ 1431655765 x) := by
    unfold j1_ p1_
    have k2 : (x / 2) &&& 1431655765 ≤ x / 2 := Nat.and_le_left
    rw [pk_ushrN (by omega) 1 1 (by decide), show (1431655765 : Int32) = nI 1431655765 from rfl, nI_and, Nat.pow_one, pk_sub (by omega)]
  have s2 : j2_ (nI (p1_ 1431655765 x)) = nI (p2_ 858993459 (p1_ 1431655765 x)) := by
    unfold j2_ p2_
    rw [pk_ushrN (by omega) 2 2 (by decide), show (858993459 : Int32) = nI 858993459 from rfl, nI_and, nI_and, nI_add]
  have s3 : j3_ (nI (p2_ 858993459 (p1_ 1431655765 x))) = nI (p3_ 252645135 (p2_ 858993459 (p1_ 1431655765 x))) := by
    unfold j3_ p3_
    rw [pk_ushrN le2 4 4 (by decide), show (252645135 : Int32) = nI 252645135 from rfl, nI_add, nI_and]
  have s4 : j4_ (nI (p3_ 252645135 (p2_ 858993459 (p1_ 1431655765 x)))) = nI (p3_ 252645135 (p2_ 858993459 (p1_ 1431655765 x)) + p3_ 252645135 (p2_ 858993459 (p1_ 1431655765 x)) / 256) := by
    unfold j4_
    rw [pk_ushrN (by omega) 8 8 (by decide), nI_add]
  rw [e, s1, s2, s3, s4]
  unfold j5_
  rw [pk_ushrN (by omega) 16 16 (by decide), nI_add, show (2 : Nat) ^ 16 = 65536 by decide, pk_andN (by omega) 6 (by decide), h5]
