/-! type. -/
def sb_ (v : Int64) (i : Int32) : Int64 := (v >>> ((8 * i).toInt64 &&& 63)) &&& 255
theorem sh64 : ∀ i, i < 8 → (((8 : Int32) * nI i).toInt64.toUInt64 &&& Int64.toUInt64 63).toBitVec % 64 = BitVec.ofNat 64 (8 * i) ∧ ((((8 : Int32) * nI i).toInt64 &&& 63).toBitVec.smod 64).toNat = 8 * i ∧ (BitVec.ofNat 64 (8 * i)).toNat = 8 * i := by decide +kernel
theorem m255 : ∀ i, i < 64 → (BitVec.ofNat 64 255).getLsbD i = decide (i < 8) := by decide +kernel
theorem sg_eq (v : Int64) {i : Nat} (hi : i < 8) : (((v).toUInt64 >>> (((8 * nI i)).toInt64.toUInt64 &&& Int64.toUInt64 63)).toInt64) &&& 255 = sb_ v (nI i) := by
  obtain ⟨h1, h2, h3⟩ := sh64 i hi
  unfold sb_
  apply Int64.toBitVec_inj.mp
  have e1 : ((((v).toUInt64 >>> (((8 * nI i)).toInt64.toUInt64 &&& Int64.toUInt64 63)).toInt64) &&& 255).toBitVec = (v.toBitVec >>> ((((8 : Int32) * nI i).toInt64.toUInt64 &&& Int64.toUInt64 63).toBitVec % 64)) &&& BitVec.ofNat 64 255 := congrArg (fun z => z &&& BitVec.ofNat 64 255) (UInt64.toBitVec_shiftRight _ _)
  have e2 : ((v >>> ((8 * nI i).toInt64 &&& 63)) &&& 255).toBitVec = (v.toBitVec.sshiftRight ((((8 : Int32) * nI i).toInt64 &&& 63).toBitVec.smod 64).toNat) &&& BitVec.ofNat 64 255 := rfl
  rw [e1, e2, h1, h2]
  apply BitVec.eq_of_getLsbD_eq
  intro j hj
  rw [BitVec.getLsbD_and, BitVec.getLsbD_and, m255 j hj]
  by_cases hj8 : j < 8
  · have e3 : (v.toBitVec >>> BitVec.ofNat 64 (8 * i)).getLsbD j = v.toBitVec.getLsbD (8 * i + j) := by
      rw [BitVec.ushiftRight_eq', h3, BitVec.getLsbD_ushiftRight]
    rw [e3, BitVec.getLsbD_sshiftRight]
    rw [if_pos (show 8 * i + j < 64 by omega)]
    have e4 : decide (64 ≤ j) = false := decide_eq_false (by omega)
    rw [e4]
    rfl
  · simp [hj8]
theorem sg_n (v : Int64) (i : Int32) : ∃ n, n < 256 ∧ sb_ v i = lN n := by
  refine ⟨(sb_ v i).toBitVec.toNat, ?_, ?_⟩
  · have e : (sb_ v i).toBitVec = (v >>> ((8 * i).toInt64 &&& 63)).toBitVec &&& BitVec.ofNat 64 255 := rfl
    rw [e, BitVec.toNat_and]
    have : (v >>> ((8 * i).toInt64 &&& 63)).toBitVec.toNat &&& (BitVec.ofNat 64 255).toNat ≤ (BitVec.ofNat 64 255).toNat := Nat.and_le_right
    have h2 : (BitVec.ofNat 64 255).toNat = 255 := by decide
    omega
  · apply Int64.toBitVec_inj.mp
    have e : (lN (sb_ v i).toBitVec.toNat).toBitVec = BitVec.ofNat 64 (sb_ v i).toBitVec.toNat := rfl
    rw [e]
    exact BitVec.eq_of_toNat_eq (by rw [BitVec.toNat_ofNat, Nat.mod_eq_of_lt (sb_ v i).toBitVec.isLt])
theorem ch256 : ∀ n, n < 256 → chB (nI n) = true ∧ ((nI n).toUInt32 % 65536).toInt32 = nI n ∧ vp_nar .char (nI n) = nI n := by decide +kernel
theorem sk256 : ∀ n, n < 256 → (t_X9_canHold g0X a0X (nI n) = 1 ∧ t_X12_isSign g0M a0M (nI n) = 1 ∧ ((97 ≤ n ∧ n ≤ 102) ∨ (48 ≤ n ∧ n ≤ 55) ∨ n = 40 ∨ n = 41 ∨ n = 44 ∨ n = 61 ∨ n = 38 ∨ n = 58)) ∨ (t_X9_canHold g0X a0X (nI n) = 0 ∧ t_X12_isSign g0M a0M (nI n) = 0) := by decide +kernel
theorem sgK {g : xG} {a : xA} {gm : xG} {am : xA} {n : Nat} (hn : n < 256) : (t_X9_canHold g a (nI n) = 1 ∧ t_X12_isSign gm am (nI n) = 1 ∧ sgn n) ∨ (t_X9_canHold g a (nI n) = 0 ∧ t_X12_isSign gm am (nI n) = 0) := sk256 n hn
/-- the signs that are typed -/
theorem signs (v : Int64) : ∃ s : Nat → Nat, ∀ i, i < 8 → s i < 256 ∧ (∀ (g : xG) (a : xA), f_X11_signOf g a v (nI i) = some (nI (s i))) ∧ (((v >>> (((8 * nI i)).toInt64 &&& 63)) &&& 255) : Int64).toInt32 = nI (s i) := by
  have h : ∀ i, ∃ n, n < 256 ∧ sb_ v (nI i) = lN n := fun i => sg_n v (nI i)
  refine ⟨fun i => Classical.choose (h i), fun i hi => ?_⟩
  obtain ⟨h1, h2⟩ := Classical.choose_spec (h i)
  obtain ⟨c1, c2, c3⟩ := ch256 _ h1
  refine ⟨h1, fun g a => ?_, ?_⟩
  · unfold f_X11_signOf
    rw [sg_eq v hi, h2, lN_i, c2, ck_t c1]
  · show (sb_ v (nI i)).toInt32 = _
    rw [h2, lN_i]
theorem ty88 {N : Nat} {v : Int64} {s : Nat → Nat} (hN : N ≤ 8) (hs : ∀ i, i < 8 → s i < 256 ∧ (∀ (g : xG) (a : xA), f_X11_signOf g a v (nI i) = some (nI (s i))) ∧ (((v >>> (((8 * nI i)).toInt64 &&& 63)) &&& 255) : Int64).toInt32 = nI (s i)) :
    ∀ (r i n : Nat) (g : xG) (a : xA) (T : Nat), i + r = N → r < n → g 6 = nI T → T + r ≤ 60 →
    ∃ f, f_X11_type_88 n g a v (nI N) (nI i) = some (.inr (nI (T + r), upd g 6 (nI (T + r)), upA a 20 f)) ∧ (∀ j, j < T → f j = a 20 j) ∧ ∀ j, j < r → f (T + j) = nI (s (i + j))
  | 0, i, n, g, a, T, hi, hn, hg, hT => by
    obtain ⟨n, rfl⟩ := pos_of hn
    refine ⟨a 20, ?_, fun _ _ => rfl, fun j hj => by omega⟩
    rw [e_X11_type_88, if_pos (nI_le (by omega) (by omega)), hg, Nat.add_zero, upA_id, upd_id _ _ hg]
  | r + 1, i, n, g, a, T, hi, hn, hg, hT => by
    obtain ⟨n, rfl⟩ := pos_of hn
    obtain ⟨s1, s2, s3⟩ := hs i (by omega)
    obtain ⟨c1, c2, c3⟩ := ch256 _ s1
    obtain ⟨f, e1, e2, e3⟩ := ty88 hN hs r (i + 1) n (upd g 6 (nI (T + 1))) (upA a 20 (upd (a 20) T (nI (s i)))) (T + 1) (by omega) (by omega) (upd_s ..) (by omega)
    refine ⟨f, ?_, fun j hj => ?_, fun j hj => ?_⟩
    · rw [e_X11_type_88, if_neg (nI_ge (by omega) (by omega)), s2, Option.bind_some]
      unfold f_X9_add
      rw [hg, if_neg (nI_pos (by omega)), if_neg (show ¬ (60 : Int32) ≤ nI T from nI_ge (a := T) (b := 60) (by omega) (by decide)), ck_t (inB_t (by omega) (by decide)), nI_clamp (by omega), c3, Option.bind_some, show nI T + 1 = nI (T + 1) from nI_1 T, show nI i + 1 = nI (i + 1) from nI_1 i]
      refine Eq.trans e1 ?_
      rw [updd, upA_2, show T + 1 + r = T + (r + 1) by omega]
    · rw [e2 j (by omega), upA_s, upd_n _ _ (by omega)]
    · cases j with
      | zero => rw [Nat.add_zero, e2 T (by omega), upA_s, upd_s, Nat.add_zero]
      | succ j => rw [show T + (j + 1) = T + 1 + j by omega, e3 j (by omega), show i + 1 + j = i + (j + 1) by omega]
theorem ty25 {N : Nat} {v : Int64} {s : Nat → Nat} {g : xG} {a : xA} (hN : N ≤ 8) (hs : ∀ i, i < 8 → s i < 256 ∧ (∀ (g : xG) (a : xA), f_X11_signOf g a v (nI i) = some (nI (s i))) ∧ (((v >>> (((8 * nI i)).toInt64 &&& 63)) &&& 255) : Int64).toInt32 = nI (s i)) :
    ∀ (r i n : Nat), i + r = N → r < n → ((∃ j, i ≤ j ∧ j < N ∧ t_X9_canHold g a (nI (s j)) = 0) ∧ f_X11_type_25 n g a v (nI N) (nI i) = some (.inl (1, g, a))) ∨ ((∀ j, i ≤ j → j < N → t_X9_canHold g a (nI (s j)) = 1) ∧ f_X11_type_25 n g a v (nI N) (nI i) = (if ((g 6) + nI N) ≤ 60 then f_X11_type_88 fu g a v (nI N) 0 else some (.inl (2, g, a))))
  | 0, i, n, hi, hn => by
    obtain ⟨n, rfl⟩ := pos_of hn
    refine Or.inr ⟨fun j h1 h2 => by omega, ?_⟩
    rw [e_X11_type_25, if_pos (nI_le (by omega) (by omega))]
  | r + 1, i, n, hi, hn => by
    obtain ⟨n, rfl⟩ := pos_of hn
    obtain ⟨s1, s2, s3⟩ := hs i (by omega)
    rw [e_X11_type_25, if_neg (nI_ge (by omega) (by omega)), s2, Option.bind_some, show nI i + 1 = nI (i + 1) from nI_1 i]
    rcases sgK (g := g) (a := a) (gm := g0M) (am := a0M) s1 with ⟨q, _, _⟩ | ⟨q, _⟩
    · rw [if_neg (by rw [q]; decide)]
      rcases ty25 hN hs r (i + 1) n (by omega) (by omega) with ⟨⟨j, j1, j2⟩, k⟩ | ⟨k1, k2⟩
      · exact Or.inl ⟨⟨j, by omega, j2⟩, k⟩
      · refine Or.inr ⟨fun j h1 h2 => ?_, k2⟩
        by_cases he : j = i
        · rw [he]; exact q
        · exact k1 j (by omega) h2
    · rw [if_pos q]
      exact Or.inl ⟨⟨i, Nat.le_refl _, by omega, q⟩, rfl⟩
theorem ty114 {N : Nat} {v : Int64} {s : Nat → Nat} (hN : N ≤ 8) (hs : ∀ i, i < 8 → s i < 256 ∧ (∀ (g : xG) (a : xA), f_X11_signOf g a v (nI i) = some (nI (s i))) ∧ (((v >>> (((8 * nI i)).toInt64 &&& 63)) &&& 255) : Int64).toInt32 = nI (s i)) :
    ∀ (r i n : Nat) (g : xG) (a : xA) (T : Nat), i + r = N → r < n → g 3 = nI T → T + r ≤ 60 →
    ∃ f, f_X12_type_114 n g a v (nI N) (nI i) = some (nI (T + r), upd g 3 (nI (T + r)), upA a 5 f) ∧ (∀ j, j < T → f j = a 5 j) ∧ ∀ j, j < r → f (T + j) = nI (s (i + j))
  | 0, i, n, g, a, T, hi, hn, hg, hT => by
    obtain ⟨n, rfl⟩ := pos_of hn
    refine ⟨a 5, ?_, fun _ _ => rfl, fun j hj => by omega⟩
    rw [e_X12_type_114, if_pos (nI_le (by omega) (by omega)), hg, Nat.add_zero, upA_id, upd_id _ _ hg]
  | r + 1, i, n, g, a, T, hi, hn, hg, hT => by
    obtain ⟨n, rfl⟩ := pos_of hn
    obtain ⟨s1, s2, s3⟩ := hs i (by omega)
    obtain ⟨f, e1, e2, e3⟩ := ty114 hN hs r (i + 1) n (upd g 3 (nI (T + 1))) (upA a 5 (upd (a 5) T (nI (s i)))) (T + 1) (by omega) (by omega) (upd_s ..) (by omega)
    refine ⟨f, ?_, fun j hj => ?_, fun j hj => ?_⟩
    · rw [e_X12_type_114, if_neg (nI_ge (by omega) (by omega)), hg, ck_t (inB_t (by omega) (by decide)), nI_clamp (by omega), s3, show nI T + 1 = nI (T + 1) from nI_1 T, show nI i + 1 = nI (i + 1) from nI_1 i]
      refine Eq.trans e1 ?_
      rw [updd, upA_2, show T + 1 + r = T + (r + 1) by omega]
    · rw [e2 j (by omega), upA_s, upd_n _ _ (by omega)]
    · cases j with
      | zero => rw [Nat.add_zero, e2 T (by omega), upA_s, upd_s, Nat.add_zero]
      | succ j => rw [show T + (j + 1) = T + 1 + j by omega, e3 j (by omega), show i + 1 + j = i + (j + 1) by omega]
theorem ty22 {N : Nat} {v : Int64} {s : Nat → Nat} {g : xG} {a : xA} (hN : N ≤ 8) (hs : ∀ i, i < 8 → s i < 256 ∧ (∀ (g : xG) (a : xA), f_X11_signOf g a v (nI i) = some (nI (s i))) ∧ (((v >>> (((8 * nI i)).toInt64 &&& 63)) &&& 255) : Int64).toInt32 = nI (s i)) :
    ∀ (r i n : Nat), i + r = N → r < n → ((∃ j, i ≤ j ∧ j < N ∧ t_X12_isSign g a (nI (s j)) = 0) → f_X12_type_22 n (upd g 8 0) a v (nI N) (nI i) = f_X12_type_68 (upd g 8 1) a v (nI N)) ∧ ((∀ j, i ≤ j → j < N → t_X12_isSign g a (nI (s j)) = 1) → f_X12_type_22 n (upd g 8 0) a v (nI N) (nI i) = f_X12_type_68 (upd g 8 0) a v (nI N))
  | 0, i, n, hi, hn => by
    obtain ⟨n, rfl⟩ := pos_of hn
    refine ⟨fun ⟨j, h1, h2, _⟩ => by omega, fun _ => ?_⟩
    rw [e_X12_type_22, if_pos (nI_le (by omega) (by omega))]
  | r + 1, i, n, hi, hn => by
    obtain ⟨n, rfl⟩ := pos_of hn
    obtain ⟨s1, s2, s3⟩ := hs i (by omega)
    obtain ⟨ih1, ih2⟩ := ty22 (g := g) (a := a) hN hs r (i + 1) n (by omega) (by omega)
    rw [e_X12_type_22, if_neg (nI_ge (by omega) (by omega)), if_pos (upd_s ..), s3, updd, updd, show nI i + 1 = nI (i + 1) from nI_1 i]
    have hsig : t_X12_isSign (upd g 8 0) a (nI (s i)) = t_X12_isSign g a (nI (s i)) := rfl
    rw [hsig]
    have bad : t_X12_isSign g a (nI (s i)) = 0 → f_X12_type_22 n (upd g 8 1) a v (nI N) (nI (i + 1)) = f_X12_type_68 (upd g 8 1) a v (nI N) := fun _ => by
      obtain ⟨n, rfl⟩ : ∃ n', n = n' + 1 := ⟨n - 1, by omega⟩
      rw [e_X12_type_22]
      by_cases h : nI N ≤ nI (i + 1)
      · rw [if_pos h]
      · rw [if_neg h, if_neg (by rw [upd_s]; decide)]
    rcases sgK (g := g0X) (a := a0X) (gm := g) (am := a) s1 with ⟨_, q, _⟩ | ⟨_, q⟩
    · rw [if_neg (by rw [q]; decide)]
      refine ⟨fun ⟨j, h1, h2, h3⟩ => ih1 ⟨j, ?_, h2, h3⟩, fun h => ih2 (fun j h1 h2 => h j (by omega) h2)⟩
      by_cases he : j = i
      · rw [he, q] at h3
        exact absurd h3 (by decide)
      · omega
    · rw [if_pos q]
      refine ⟨fun _ => bad q, fun h => ?_⟩
      have := h i (Nat.le_refl _) (by omega)
      rw [q] at this
      exact absurd this (by decide)
