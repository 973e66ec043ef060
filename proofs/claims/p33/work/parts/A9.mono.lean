/-! monoid. -/
theorem pc_add {z c : Nat} (hz : z.testBit c = false) : ∀ N, c < N → pc (z ||| 2 ^ c) N = pc z N + 1
  | 0, h => by omega
  | N + 1, h => by
    have same : ∀ m, m ≤ c → pc (z ||| 2 ^ c) m = pc z m := by
      intro m
      induction m with
      | zero => intro _; rfl
      | succ m ih =>
        intro hm
        show pc (z ||| 2 ^ c) m + (if (z ||| 2 ^ c).testBit m then 1 else 0) = pc z m + (if z.testBit m then 1 else 0)
        have : (z ||| 2 ^ c).testBit m = z.testBit m := by
          rw [Nat.testBit_or, Nat.testBit_two_pow]
          have : ¬ c = m := by omega
          simp [this]
        rw [ih (by omega), this]
    show pc (z ||| 2 ^ c) N + (if (z ||| 2 ^ c).testBit N then 1 else 0) = pc z N + (if z.testBit N then 1 else 0) + 1
    by_cases he : c = N
    · subst he
      have : (z ||| 2 ^ c).testBit c = true := or_r (Nat.testBit_two_pow_self ..)
      rw [same c (Nat.le_refl _), this, hz, if_pos rfl, if_neg (by decide)]
    · have : (z ||| 2 ^ c).testBit N = z.testBit N := by
        rw [Nat.testBit_or, Nat.testBit_two_pow]
        simp [he]
      rw [pc_add hz N (by omega), this]
      omega
/-- what an operation of one place makes of a code of one -/
theorem apl1 {d n : Nat} {T x : Nat → Nat} : apl d 1 T n x = nm d (fun j => T (dg d (x 0) j)) n := nm_cong fun j _ => by
  show T (nm d (fun p => dg d (x p) j) 1) = T (dg d (x 0) j)
  congr 1
  show 0 + dg d (x 0) j * d ^ 0 = _
  rw [Nat.pow_zero, Nat.mul_one, Nat.zero_add]
def MInv (d K : Nat) (ar : Nat → Nat) (an : Nat → Nat → Nat) (idn : Nat) (a : xA) (n k op : Nat) (ρ : Nat → Nat) (z : Nat) : Prop :=
  z < 2 ^ (d ^ d) ∧ pc z 27 = n ∧ (∀ i, i < n → a 15 i = nI (ρ i) ∧ z.testBit (ρ i) = true) ∧ (∀ c, c < 27 → a 14 c = nI (if z.testBit c then 1 else 0)) ∧ (∀ c, z.testBit c = true → ∃ i, i < n ∧ ρ i = c) ∧ z.testBit idn = true ∧ (∀ c, z.testBit c = true → LC d K 1 d (2 ^ idn) ar an c) ∧ ∀ i op', (i < k ∨ (i = k ∧ op' < op)) → i < n → op' < K → ar op' = 1 → z.testBit (nm d (fun j => an op' (dg d (ρ i) j)) d) = true
theorem mo114 {d K : Nat} {ar : Nat → Nat} {an : Nat → Nat → Nat} {g : xG} {a : xA} (hd : d = 2 ∨ d = 3) (h0 : g 0 = nI d) (hO : OKm d K ar an g a) {op row k : Nat} (hop : op < K) (hk : k < 27) (hrow : row < 27) (h15 : a 15 k = nI row) {n5 : Nat} {K84 : xA → Int32 → Int32 → Option (Int32 × xA)} {K94 : xA → Int32 → Int32 → Int32 → Option (Int32 × xA)} :
    ∀ (p r n : Nat), p + r = d → p < n → ∃ q, q = nm d (fun j => an op (dg d row j)) d ∧ f_X12_monoid_114 g K84 K94 n a (nI n5) (nI k) (nI op) (nI (nm d (fun j => an op (dg d row (p + j))) r)) (nI p + -nI 1) = f_X12_monoid_114 g K84 K94 (n - p) a (nI n5) (nI k) (nI op) (nI q) (nI 0 + -nI 1)
  | 0, r, n, hp, hn => by
    have e : r = d := by omega
    subst e
    refine ⟨_, rfl, ?_⟩
    rw [hn_0 r (fun j => an op (dg r row j)), Nat.sub_zero]
  | p + 1, r, n, hp, hn => by
    obtain ⟨n, rfl⟩ := pos_of hn
    have hd0 : 0 < d := by omega
    obtain ⟨o1, o2⟩ := hO.2.2 op hop
    have hK := hO.1
    have hw1 : d ^ 1 ≤ d ^ ar op := Nat.pow_le_pow_right hd0 o1.2.1
    rw [Nat.pow_one] at hw1
    have hdg := dg_lt hd0 row p
    have ht := o1.2.2.2 (dg d row p) (by omega)
    obtain ⟨q, q1, q2⟩ := mo114 hd h0 hO hop hk hrow h15 (n5 := n5) (K84 := K84) (K94 := K94) p (r + 1) n (by omega) (by omega)
    refine ⟨q, q1, ?_⟩
    rw [e_X12_monoid_114, m1p, if_neg (nI_pos (by omega)), ck_t (inB_t hk (by decide)), nI_clamp (by omega), h15, onM hd (by omega) h0 (by omega), Option.bind_some, h0]
    simp only [z27, z1, nI_add, pk_mul]
    rw [ck_t (inB_t (by omega) (by decide)), nI_clamp (by omega), ht.1, nI_add, hn_sh d (fun j => an op (dg d row j)), show n + 1 - (p + 1) = n - p by omega]
    exact q2
theorem mo94 {d K idn k : Nat} {ar : Nat → Nat} {an : Nat → Nat → Nat} {g : xG} (hd : d = 2 ∨ d = 3) (h0 : g 0 = nI d) {K84 : xA → Int32 → Int32 → Option (Int32 × xA)} :
    ∀ (r op f : Nat) (a : xA) (n : Nat) (ρ : Nat → Nat) (z : Nat), op + r = K → r < f → OKm d K ar an g a → k < n → MInv d K ar an idn a n k op ρ z →
    ∃ n' ρ' z' a', f_X12_monoid_94 g K84 f a (nI n) (nI k) (nI op) = K84 a' (nI n') (nI (k + 1)) ∧ MInv d K ar an idn a' n' (k + 1) 0 ρ' z' ∧ n ≤ n' ∧ Sm [] [14, 15] g a g a'
  | 0, op, f, a, n, ρ, z, ho, hf, hO, hk, hv => by
    obtain ⟨f, rfl⟩ := pos_of hf
    have hK := hO.1
    refine ⟨n, ρ, z, a, ?_, ⟨hv.1, hv.2.1, hv.2.2.1, hv.2.2.2.1, hv.2.2.2.2.1, hv.2.2.2.2.2.1, hv.2.2.2.2.2.2.1, fun i op' h1 h2 h3 h4 => hv.2.2.2.2.2.2.2 i op' (by omega) h2 h3 h4⟩, Nat.le_refl _, Sm_rfl⟩
    rw [e_X12_monoid_94, hO.2.1, if_pos (nI_le (by omega) (by omega)), show nI k + 1 = nI (k + 1) from nI_1 k]
  | r + 1, op, f, a, n, ρ, z, ho, hf, hO, hk, hv => by
    obtain ⟨f, rfl⟩ := pos_of hf
    have hK := hO.1
    have hd0 : 0 < d := by omega
    have h27 := pw3 hd (w := d) (by omega)
    have hop : op < K := by omega
    obtain ⟨o1, o2⟩ := hO.2.2 op hop
    obtain ⟨v1, v2, v3, v4, v5, v6, v7, v8⟩ := hv
    have hn27 : n ≤ 27 := by rw [← v2]; exact pc_le _ _
    obtain ⟨k1, k2⟩ := v3 k hk
    have hrow := bit_lt v1 k2
    have hT1 : ∀ j, an op (dg d (ρ k) j) < d := fun j => by
      have hw1 : d ^ 1 ≤ d ^ ar op := Nat.pow_le_pow_right hd0 o1.2.1
      rw [Nat.pow_one] at hw1
      have hdg := dg_lt hd0 (ρ k) j
      exact (o1.2.2.2 _ (by omega)).2
    have hql := nm_lt (d := d) (f := fun j => an op (dg d (ρ k) j)) d (fun j _ => hT1 j)
    obtain ⟨q, hq, e1⟩ := mo114 hd h0 hO hop (k := k) (row := ρ k) (by omega) (by omega) k1 (n5 := n) (K84 := K84) (K94 := f_X12_monoid_94 g K84 f) d 0 fu (by omega) (fu_gt (by omega))
    rw [← hq] at hql
    obtain ⟨m, hm⟩ : ∃ m, fu - d = m + 1 := ⟨fu - d - 1, by have := fu_gt (k := 100) (by decide); omega⟩
    rw [hm, e_X12_monoid_114, if_pos (show nI 0 + -nI 1 < 0 from m1z), ck_t (inB_t (by omega) (by decide)), nI_clamp (by omega), o2, ck_t (inB_t (by omega) (by decide)), ck_t (inB_t (by omega) (by decide)), nI_clamp (by omega), v4 q (by omega), show nI op + 1 = nI (op + 1) from nI_1 op] at e1
    have e0 : f_X12_monoid_94 g K84 (f + 1) a (nI n) (nI k) (nI op) = f_X12_monoid_114 g K84 (f_X12_monoid_94 g K84 f) fu a (nI n) (nI k) (nI op) (nI (nm d (fun j => an op (dg d (ρ k) (d + j))) 0)) (nI d + -nI 1) := by
      rw [e_X12_monoid_94, hO.2.1, if_neg (nI_ge hop (by omega)), h0, show nI d - 1 = nI d + -nI 1 from m1s _]
      rfl
    have ee := e0.trans e1
    by_cases ha1 : ar op = 1
    · rw [ha1, if_pos (show nI 1 = 1 from rfl)] at ee
      cases hb : z.testBit q with
      | true =>
        rw [hb, if_pos rfl, if_neg (show ¬ nI 1 = 0 by decide)] at ee
        obtain ⟨n', ρ', z', a', q1, q2, q3, q4⟩ := mo94 hd h0 (K84 := K84) r (op + 1) f a n ρ z (by omega) (by omega) hO hk ⟨v1, v2, v3, v4, v5, v6, v7, fun i op' h1 h2 h3 h4 => by
          by_cases he : i = k ∧ op' = op
          · rw [he.1, he.2, ← hq]
            exact hb
          · exact v8 i op' (by omega) h2 h3 h4⟩
        exact ⟨n', ρ', z', a', ee.trans q1, q2, q3, q4⟩
      | false =>
        have hzn : pc (z ||| 2 ^ q) 27 = n + 1 := by rw [pc_add hb 27 (by omega), v2]
        have hn1 : n + 1 ≤ 27 := by rw [← hzn]; exact pc_le _ _
        rw [hb, if_pos (show nI (if false = true then 1 else 0) = 0 by decide), ck_t (inB_t (by omega) (by decide)), nI_clamp (by omega), upA_n _ _ (by decide), show nI n + 1 = nI (n + 1) from nI_1 n] at ee
        obtain ⟨a1, ea1⟩ : ∃ a1, a1 = upA (upA a 14 (upd (a 14) q 1)) 15 (upd (a 15) n (nI q)) := ⟨_, rfl⟩
        rw [← ea1] at ee
        have s1 : Sm [] [14, 15] g a g a1 := by rw [ea1]; exact Sm_A (Sm_A Sm_rfl (by decide)) (by decide)
        have h15 : a1 15 = upd (a 15) n (nI q) := by rw [ea1, upA_s]
        have h14 : a1 14 = upd (a 14) q 1 := by rw [ea1, upA_n _ _ (by decide), upA_s]
        have hρ : ∀ i, i < n → (fun i => if i = n then q else ρ i) i = ρ i := fun i hi => if_neg (by omega)
        obtain ⟨n', ρ', z', a', q1, q2, q3, q4⟩ := mo94 (k := k) (idn := idn) hd h0 (K84 := K84) r (op + 1) f a1 (n + 1) (fun i => if i = n then q else ρ i) (z ||| 2 ^ q) (by omega) (by omega) (OKm_sm hO s1) (by omega) ⟨or_lt v1 hql, hzn, fun i hi => by
          rw [h15]
          dsimp only
          by_cases he : i = n
          · rw [if_pos he, he, upd_s]
            exact ⟨rfl, or_r (Nat.testBit_two_pow_self ..)⟩
          · rw [if_neg he, upd_n _ _ he]
            obtain ⟨w1, w2⟩ := v3 i (by omega)
            exact ⟨w1, or_l w2⟩, fun c hc => by
          rw [h14]
          by_cases he : c = q
          · rw [he, upd_s, show (z ||| 2 ^ q).testBit q = true from or_r (Nat.testBit_two_pow_self ..)]
            rfl
          · rw [upd_n _ _ he, v4 c hc]
            have : (z ||| 2 ^ q).testBit c = z.testBit c := by
              rw [Nat.testBit_or, Nat.testBit_two_pow]
              have : ¬ q = c := fun h => he h.symm
              simp [this]
            rw [this], fun c hc => by
          rw [or_bit] at hc
          dsimp only
          rcases hc with hc | hc
          · obtain ⟨i, i1, i2⟩ := v5 c hc
            exact ⟨i, by omega, by rw [if_neg (by omega)]; exact i2⟩
          · exact ⟨n, by omega, by rw [if_pos rfl]; exact hc⟩, or_l v6, fun c hc => by
          rw [or_bit] at hc
          rcases hc with hc | hc
          · exact v7 c hc
          · rw [← hc, hq]
            have := LC_op (d := d) (K := K) (mp := 1) (n0 := d) (st := 2 ^ idn) (ar := ar) (an := an) hop (by omega) (x := fun _ => ρ k) (fun p _ => v7 _ k2)
            rw [ha1, apl1] at this
            exact this, fun i op' h1 h2 h3 h4 => by
          dsimp only
          by_cases hin : i = n
          · omega
          · rw [if_neg hin]
            by_cases he : i = k ∧ op' = op
            · rw [he.1, he.2, ← hq]
              exact or_r (Nat.testBit_two_pow_self ..)
            · exact or_l (v8 i op' (by omega) (by omega) h3 h4)⟩
        exact ⟨n', ρ', z', a', ee.trans q1, q2, by omega, Sm_tr s1 q4⟩
    · have har := o1.2.2.1
      have ha0 := o1.2.1
      rw [if_neg (show ¬ nI (ar op) = 1 from fun h => ha1 ((nI_eqs (y := 1) (by omega) (by decide)).mp h))] at ee
      obtain ⟨n', ρ', z', a', q1, q2, q3, q4⟩ := mo94 hd h0 (K84 := K84) r (op + 1) f a n ρ z (by omega) (by omega) hO hk ⟨v1, v2, v3, v4, v5, v6, v7, fun i op' h1 h2 h3 h4 => by
        by_cases he : i = k ∧ op' = op
        · rw [he.2] at h4
          exact absurd h4 ha1
        · exact v8 i op' (by omega) h2 h3 h4⟩
      exact ⟨n', ρ', z', a', ee.trans q1, q2, q3, q4⟩
theorem mo84 {d K idn : Nat} {ar : Nat → Nat} {an : Nat → Nat → Nat} {g : xG} (hd : d = 2 ∨ d = 3) (h0 : g 0 = nI d) :
    ∀ (r k f : Nat) (a : xA) (n : Nat) (ρ : Nat → Nat) (z : Nat), k + r = 28 → r < f → OKm d K ar an g a → k ≤ n → MInv d K ar an idn a n k 0 ρ z →
    ∃ n' ρ' z' a', f_X12_monoid_84 g f a (nI n) (nI k) = some (nI n', a') ∧ MInv d K ar an idn a' n' n' 0 ρ' z' ∧ Sm [] [14, 15] g a g a'
  | 0, k, f, a, n, ρ, z, hkr, hf, hO, hk, hv => by
    have hn27 : n ≤ 27 := by rw [← hv.2.1]; exact pc_le _ _
    omega
  | r + 1, k, f, a, n, ρ, z, hkr, hf, hO, hk, hv => by
    obtain ⟨f, rfl⟩ := pos_of hf
    have hn27 : n ≤ 27 := by rw [← hv.2.1]; exact pc_le _ _
    have hK := hO.1
    by_cases he : k = n
    · subst he
      refine ⟨k, ρ, z, a, ?_, hv, Sm_rfl⟩
      rw [e_X12_monoid_84, if_pos (nI_le (Nat.le_refl _) (by omega))]
    · obtain ⟨n', ρ', z', a1, q1, q2, q3, q4⟩ := mo94 (idn := idn) hd h0 (K84 := f_X12_monoid_84 g f) K 0 fu a n ρ z (by omega) (fu_gt (by omega)) hO (by omega) hv
      obtain ⟨n2, ρ2, z2, a2, q5, q6, q7⟩ := mo84 hd h0 r (k + 1) f a1 n' ρ' z' (by omega) (by omega) (OKm_sm hO q4) (by omega) q2
      refine ⟨n2, ρ2, z2, a2, ?_, q6, Sm_tr q4 q7⟩
      rw [e_X12_monoid_84, if_neg (nI_ge (by omega) (by omega))]
      exact q1.trans q5
theorem mo35 {d : Nat} {g : xG} {a : xA} {x1 : Int32} (hd : d = 2 ∨ d = 3) (h0 : g 0 = nI d) : ∀ (p r n : Nat), p + r = d → p < n → f_X12_monoid_35 g n a x1 (nI (nm d (fun j => p + j) r)) (nI p + -nI 1) = (if x1 ≤ nI (nm d (fun j => j) d) then f_X12_monoid_69 g a (nI (nm d (fun j => j) d)) 0 else f_X12_monoid_69 g a (nI (nm d (fun j => j) d)) 1)
  | 0, r, n, hp, hn => by
    obtain ⟨n, rfl⟩ := pos_of hn
    have e : r = d := by omega
    subst e
    rw [e_X12_monoid_35, if_pos (show nI 0 + -nI 1 < 0 from m1z), hn_0 r (fun j => j)]
  | p + 1, r, n, hp, hn => by
    obtain ⟨n, rfl⟩ := pos_of hn
    rw [e_X12_monoid_35, m1p, if_neg (nI_pos (by omega)), h0, pk_mul, nI_add, hn_sh d (fun j => j)]
    exact mo35 hd h0 p (r + 1) n (by omega) (by omega)
theorem un4 {d : Nat} {g : xG} {a : xA} (hB : Bas d g a) : ∀ (r p n : Nat), p + r = d → r < n → f_X6_unaryOnes_4 n g a (nI (nm d (fun j => j) p)) (nI p) = Option.bind (f_X6_closure g a (nI d) ((1 : Int32) <<< (nI (nm d (fun j => j) d) &&& 31)) 1) (fun u2 => some (u2.1, u2.2.1, u2.2.2))
  | 0, p, n, hp, hn => by
    obtain ⟨n, rfl⟩ := pos_of hn
    have hd := hB.1
    have e : p = d := by omega
    subst e
    rw [e_X6_unaryOnes_4, hB.2.1, if_pos (nI_le (Nat.le_refl _) (by omega))]
  | r + 1, p, n, hp, hn => by
    obtain ⟨n, rfl⟩ := pos_of hn
    have hd := hB.1
    rw [e_X6_unaryOnes_4, hB.2.1, if_neg (nI_ge (by omega) (by omega)), power_B hB (by omega), pk_mul, nI_add, show nI p + 1 = nI (p + 1) from nI_1 p]
    exact un4 hB r (p + 1) n (by omega) (by omega)
theorem ob1_monoid : ob_monoid Cpl := by
  intro g a gm am h
  have hC := h
  obtain ⟨d, R, K, T, V, C, pl, tu, ar, ch, cr, an, cv, hB, h0, hR, hK, hT, hI⟩ := h
  have hd := hB.1
  have hd0 : 0 < d := by omega
  have h27 := pw3 hd (w := d) (by omega)
  have hX := OKs_of hK
  have hidn : nm d (fun j => j) d < d ^ d := nm_lt d (fun k hk => hk)
  obtain ⟨idn, hid⟩ : ∃ idn, idn = nm d (fun j => j) d := ⟨_, rfl⟩
  rw [← hid] at hidn
  obtain ⟨z, g', a', x1, x2, x3, x4⟩ := closX (mp := 1) (n0 := d) (st := 2 ^ idn) (by omega) h27 (by decide) hB hX (Nat.pow_lt_pow_right (by decide) hidn)
  have exx : f_X11_monoid g a = some (nI (pc z 31), g', a') := by
    unfold f_X11_monoid f_X6_unaryOnes
    have := un4 hB d 0 fu (by omega) (fu_gt (by omega))
    rw [← hid, shl_nI (by omega), show f_X6_closure g a (nI d) (nI (2 ^ idn)) 1 = _ from x1, Option.bind_some] at this
    rw [show f_X6_unaryOnes_4 fu g a 0 0 = _ from this, Option.bind_some]
    dsimp only
    rw [bc27 (Nat.lt_of_lt_of_le x3 (Nat.pow_le_pow_right (by decide) h27))]
  have h0' : upd gm 8 0 0 = nI d := (upd_n _ _ (by decide)).trans h0
  obtain ⟨am1, eam1⟩ : ∃ am1, am1 = upA (upA am 14 (fun _ => 0)) 15 (fun _ => 0) := ⟨_, rfl⟩
  obtain ⟨am2, eam2⟩ : ∃ am2, am2 = upA (upA am1 15 (upd (am1 15) 0 (nI idn))) 14 (upd (am1 14) idn 1) := ⟨_, rfl⟩
  have s1 : Sm [] [14, 15] (upd gm 8 0) am (upd gm 8 0) am1 := by rw [eam1]; exact Sm_A (Sm_A Sm_rfl (by decide)) (by decide)
  have s2 : Sm [] [14, 15] (upd gm 8 0) am (upd gm 8 0) am2 := by rw [eam2]; exact Sm_A (Sm_A s1 (by decide)) (by decide)
  have hM : OKm d K ar an (upd gm 8 0) am := OKm_of hK
  have z1b : ∀ c, (2 ^ idn).testBit c = true ↔ idn = c := fun c => by rw [Nat.testBit_two_pow, decide_eq_true_iff]
  obtain ⟨n', ρ', z', am3, m1, m2, m3⟩ := mo84 (idn := idn) hd h0' 28 0 fu am2 1 (fun _ => idn) (2 ^ idn) rfl (fu_gt (by omega)) (OKm_sm hM s2) (Nat.zero_le _) ⟨Nat.pow_lt_pow_right (by decide) hidn, by
    have := pc_add (z := 0) (c := idn) (Nat.zero_testBit _) 27 (by omega)
    rw [Nat.zero_or] at this
    rw [this]
    decide +kernel, fun i hi => by
    refine ⟨?_, (z1b _).mpr rfl⟩
    rw [eam2, upA_n _ _ (by decide), upA_s, show i = 0 by omega, upd_s], fun c hc => by
    rw [eam2, upA_s, eam1, upA_n _ _ (by decide), upA_s]
    by_cases he : c = idn
    · rw [he, upd_s, if_pos ((z1b _).mpr rfl)]
      rfl
    · rw [upd_n _ _ he, if_neg (fun h => he ((z1b _).mp h).symm)]
      rfl, fun c hc => ⟨0, by decide, (z1b c).mp hc⟩, (z1b _).mpr rfl, fun c hc => LC_st hc, fun i op' h1 => by omega⟩
  have hzz : z = z' := set_ext fun c => by
    obtain ⟨v1, v2, v3, v4, v5, v6, v7, v8⟩ := m2
    rw [x4 c]
    refine ((LC_eq (z := z') (fun c hc => ?_) v7 (fun k hk hm c hc => ?_)) c).symm
    · rw [(z1b c).mp hc] at v6
      exact v6
    · obtain ⟨x, w1, w2⟩ := hc
      have ha1 : ar k = 1 := by
        have := (hK.2.2.2 k hk).1.2.2.1
        omega
      rw [ha1] at w1 w2
      obtain ⟨i, i1, i2⟩ := v5 _ (w1 0 (by decide))
      rw [← w2, apl1, ← i2]
      exact v8 i k (Or.inl i1) i1 hk ha1
  have emm : f_X12_monoid gm am = some (nI n', am3) := by
    unfold f_X12_monoid
    rw [h0', pwM (by omega) h0', Option.bind_some, ← eam1]
    unfold f_X12_monoid_24
    have := mo35 (g := upd gm 8 0) (a := am1) (x1 := nI (d ^ d)) hd h0' d 0 fu (by omega) (fu_gt (by omega))
    rw [h0', show nI d - 1 = nI d + -nI 1 from m1s _]
    rw [← hid] at this
    refine Eq.trans this ?_
    rw [if_neg (nI_ge hidn (by omega))]
    unfold f_X12_monoid_69
    rw [ck_t (by decide), ck_t (inB_t (by omega) (by decide)), nI_clamp (by omega), show (0 : Int32).toNatClampNeg = 0 by decide, show upA am1 15 (upd (am1 15) 0 (nI idn)) 14 = am1 14 from upA_n _ _ (by decide), ← eam2]
    exact m1
  refine ⟨(nI (pc z 31), g', a'), (nI n', am3), exx, emm, ?_, Cpl_fr hC (Sm_mo x2 (by decide) (by decide)) (SmM_tr SmM_8 (SmM_of (Sm_tr s2 m3)))⟩
  show nI (pc z 31) = nI n'
  rw [hzz, ← m2.2.1]
  rw [pc_up (n := d ^ d) (m := 31) m2.1 (by omega), pc_up (n := d ^ d) (m := 27) m2.1 (by omega)]
