/-! around. -/
theorem mem_ex (T : Nat) : ∀ n, ∃ mem : Nat → Nat, ∀ t, t < n → T.testBit t = true → mem (pc T t) = t
  | 0 => ⟨fun _ => 0, fun t h => by omega⟩
  | n + 1 => by
    obtain ⟨mem, h⟩ := mem_ex T n
    refine ⟨fun i => if i = pc T n then n else mem i, fun t ht hb => ?_⟩
    dsimp only
    by_cases he : t = n
    · rw [he, if_pos rfl]
    · rw [if_neg, h t (by omega) hb]
      have : pc T t < pc T n := by
        clear h
        have hm : ∀ m, t < m → m ≤ n → pc T t < pc T m := by
          intro m
          induction m with
          | zero => intro h; omega
          | succ m ih =>
            intro h1 h2
            show pc T t < pc T m + (if T.testBit m then 1 else 0)
            by_cases hem : t = m
            · rw [← hem, hb, if_pos rfl]; omega
            · have := ih (by omega) (by omega); omega
        exact hm n (by omega) (Nat.le_refl _)
      omega
theorem mem_in {T : Nat} : ∀ n i, i < pc T n → ∃ t, t < n ∧ T.testBit t = true ∧ pc T t = i
  | 0, i, h => by simp [pc] at h
  | n + 1, i, h => by
    have h' : i < pc T n + (if T.testBit n then 1 else 0) := h
    by_cases hb : T.testBit n = true
    · rw [if_pos hb] at h'
      by_cases he : i = pc T n
      · exact ⟨n, by omega, hb, he.symm⟩
      · obtain ⟨t, t1, t2⟩ := mem_in (T := T) n i (by omega)
        exact ⟨t, by omega, t2⟩
    · rw [if_neg hb] at h'
      obtain ⟨t, t1, t2⟩ := mem_in (T := T) n i (by omega)
      exact ⟨t, by omega, t2⟩
theorem pc_s1 {T n : Nat} (h : T.testBit n = true) : pc T (n + 1) = pc T n + 1 := by
  show pc T n + (if T.testBit n then 1 else 0) = _
  rw [if_pos h]
theorem pc_s0 {T n : Nat} (h : T.testBit n = false) : pc T (n + 1) = pc T n := by
  show pc T n + (if T.testBit n then 1 else 0) = _
  rw [h]
  rfl
theorem co5 {d T : Nat} {mem : Nat → Nat} {g : xG} {a : xA} (hB : Bas d g a) (hT : T < 2 ^ 9) (hm : ∀ t, t < 31 → T.testBit t = true → mem (pc T t) = t) : ∀ (p r n : Nat), p < n → p ≤ 27 →
    f_X3_columnsOf_5 g a n (nI T) (nI (nm d (fun q => sp d (mem (pc T p + q))) r)) (nI p + -nI 1) = some (nI (nm d (fun q => sp d (mem q)) (pc T p + r)))
  | 0, r, n, hn, hp => by
    obtain ⟨n, rfl⟩ := pos_of hn
    rw [e_X3_columnsOf_5, if_pos (show nI 0 + -nI 1 < 0 from m1z), show pc T 0 = 0 from rfl, hn_0 d (fun q => sp d (mem q)), Nat.zero_add]
  | p + 1, r, n, hn, hp => by
    obtain ⟨n, rfl⟩ := pos_of hn
    rw [e_X3_columnsOf_5, m1p, if_neg (nI_pos (by omega)), isIn_nI (by omega) (by omega)]
    cases hb : T.testBit p with
    | false =>
      rw [if_pos (by decide), pc_s0 hb]
      exact co5 hB hT hm p r n (by omega) (by omega)
    | true =>
      have et : t_X4_spread g a (nI p) = nI (sp d (mem (pc T p))) := by
        unfold t_X4_spread
        rw [at_in (by omega) (by decide), hB.2.2.2 p (by omega), hm p (by omega) hb]
      rw [if_neg (by decide), pc_s1 hb, hB.2.1, et, pk_mul, nI_add, hn_sh d (fun q => sp d (mem q)) (pc T p) r, show pc T p + 1 + r = pc T p + (r + 1) by omega]
      exact co5 hB hT hm p (r + 1) n (by omega) (by omega)
/-- what comes by an operation that keeps all others -/
def AR (d R w n0 r : Nat) (pl tu mem : Nat → Nat) (t : Nat) : Prop := ∃ f : Nat → Nat, (∀ p, p < d ^ w → f p < d) ∧ (∀ r', r' < R → r' ≠ r → bdiff (im d w f (pl r') (tu r')) (tu r') = 0) ∧ apl d w f n0 mem = t
def alA (d w n0 t : Nat) (mem : Nat → Nat) (al : Nat → Nat) (x : Nat) : Prop := ∀ p, p < 27 → al p < 8 ∧ ∀ u, (al p).testBit u = true ↔ u < d ∧ ∀ j, j < x → col d w mem j = p → dg d t j = u
theorem la80 {d R w n0 r t : Nat} {pl tu mem : Nat → Nat} {X : Nat} {g : xG} (hw : w ≤ 3) (hn1 : 1 ≤ n0) (hn : n0 + d ≤ 5) (hR8 : R ≤ 8) (hRR : ∀ r, r < R → 1 ≤ pl r ∧ pl r + d ≤ 5) (ht : t < d ^ n0) (hX : X < 2 ^ 9) {K : xG → xA → Int32 → Int32 → Int32 → Int32 → Option (Int32 × xG × xA)} :
    ∀ (m x n : Nat) (a : xA) (al : Nat → Nat), x + m = n0 → m < n → Bas d g a → g 5 = nI (d ^ w) → (∀ κ, κ < 729 → Fit (a 15 κ) (SK d R w r pl tu κ) (d ^ (5 - d))) → (∀ p, p < 27 → a 16 p = nI (al p)) → alA d w n0 t mem al x →
    ∃ (b : Bool) (a' : xA), f_X3_leastAround_80 K n g a (nI n0) (nI (nm d (fun q => sp d (mem q)) w)) (nI X) (nI t) (nI x) = K g a' (nI n0) (nI (nm d (fun q => sp d (mem q)) w)) (nI (if b then X ||| 2 ^ t else X)) (nI (t + 1)) ∧ Sm [] [16, 17, 18] g a g a' ∧ (b = true ↔ AR d R w n0 r pl tu mem t)
  | 0, x, n, a, al, hx, hn', hB, h5, hF, ha, hal => by
    obtain ⟨n, rfl⟩ := pos_of hn'
    have hd := hB.1
    have hd0 : 0 < d := by omega
    have h27 := pw3 hd hw
    have h9 := pw9 hd hn
    have e : x = n0 := by omega
    subst e
    obtain ⟨b, a2, k1, k2, k3, k4⟩ := findX (al := al) hw ⟨hB, h5, hF, fun p hp => ⟨ha p (by omega), (hal p (by omega)).1⟩⟩
    have hcol : ∀ j, col d w mem j < d ^ w := fun j => col_lt hd0
    have hV : ∀ f, VAL d w (SK d R w r pl tu) al f ↔ (∀ p, p < d ^ w → f p < d) ∧ (∀ r', r' < R → r' ≠ r → bdiff (im d w f (pl r') (tu r')) (tu r') = 0) ∧ apl d w f x mem = t := fun f => by
      constructor
      · rintro ⟨q1, q2⟩
        have hf : ∀ p, p < d ^ w → f p < d := fun p hp => (q1 p hp).1
        refine ⟨hf, (Al_all hd hRR hf).mp q2, ?_⟩
        have e1 : apl d w f x mem = nm d (dg d t) x := nm_cong fun j hj => by
          have := (((hal (col d w mem j) (by have := hcol j; omega)).2 _).mp (q1 _ (hcol j)).2).2 j hj rfl
          exact this.symm
        rw [e1, dg_nm hd0 x t ht]
      · rintro ⟨q1, q2, q3⟩
        refine ⟨fun p hp => ⟨q1 p hp, ((hal p (by omega)).2 _).mpr ⟨q1 p hp, fun j hj hc => ?_⟩⟩, (Al_all hd hRR q1).mpr q2⟩
        rw [← q3, ← hc]
        exact nm_dg hd0 x (fun k _ => q1 _ (hcol k)) j hj
    refine ⟨b, a2, ?_, Sm_mo k2 (by decide) (by decide), fun q => ?_, fun ⟨f, q⟩ => ?_⟩
    · rw [e_X3_leastAround_80, if_pos (nI_le (Nat.le_refl _) (by omega)), k1, Option.bind_some, show nI t + 1 = nI (t + 1) from nI_1 t]
      cases b with
      | false =>
        dsimp only
        rw [if_pos (by decide)]
        rfl
      | true =>
        dsimp only
        rw [if_neg (by decide), shl_nI (by omega), nI_or]
        rfl
    · obtain ⟨y', l1, l2, _⟩ := k4 q
      exact ⟨y', (hV y').mp l2⟩
    · cases hb : b with
      | true => rfl
      | false => exact absurd ((hV f).mpr q) (k3 hb f)
  | m + 1, x, n, a, al, hx, hn', hB, h5, hF, ha, hal => by
    obtain ⟨n, rfl⟩ := pos_of hn'
    have hd := hB.1
    have hd0 : 0 < d := by omega
    have h27 := pw3 hd hw
    have h9 := pw9 hd hn
    have hX' := nm_sp_lt hd hw mem
    have hc : col d w mem x < d ^ w := col_lt hd0
    have hv := dg_lt hd0 t x
    have eo : t_X4_onPlace g a (nI (nm d (fun q => sp d (mem q)) w)) (nI x) = nI (col d w mem x) := by
      rw [onPl (by omega) (by omega), nm_sp hd hw mem (by omega)]
      rfl
    have ea : t_X8_allowOnly g a (nI (col d w mem x)) (nI (dg d t x)) = upA a 16 (upd (a 16) (col d w mem x) (nI (al (col d w mem x) &&& 2 ^ dg d t x))) := by
      unfold t_X8_allowOnly
      rw [at_in (by omega) (by decide), ha _ (by omega), shl_nI (by omega), nI_and, put_in (by omega) (by decide)]
    obtain ⟨b, a', e1, e2, e3⟩ := la80 (R := R) (r := r) (pl := pl) (tu := tu) (X := X) (mem := mem) hw hn1 hn hR8 hRR ht hX (K := K) m (x + 1) n (upA a 16 (upd (a 16) (col d w mem x) (nI (al (col d w mem x) &&& 2 ^ dg d t x)))) (fun p => if p = col d w mem x then al (col d w mem x) &&& 2 ^ dg d t x else al p) (by omega) (by omega) (Bas_fr hB rfl (upA_n _ _ (by decide)) (upA_n _ _ (by decide))) h5 (fun κ hκ => by rw [upA_n _ _ (by decide)]; exact hF κ hκ) (fun p hp => by
      rw [upA_s]
      by_cases he : p = col d w mem x
      · rw [if_pos he, he, upd_s]
      · rw [if_neg he, upd_n _ _ he]
        exact ha p hp) (fun p hp => by
      dsimp only
      by_cases he : p = col d w mem x
      · rw [if_pos he]
        refine ⟨Nat.lt_of_le_of_lt Nat.and_le_left (hal _ (by omega)).1, fun u => ?_⟩
        rw [and_bit, (hal _ (by omega)).2 u, Nat.testBit_two_pow, decide_eq_true_iff]
        constructor
        · rintro ⟨⟨q1, q2⟩, q3⟩
          refine ⟨q1, fun j hj hcj => ?_⟩
          by_cases hjx : j = x
          · rw [hjx]; exact q3
          · exact q2 j (by omega) (hcj.trans he)
        · rintro ⟨q1, q2⟩
          exact ⟨⟨q1, fun j hj hcj => q2 j (by omega) (hcj.trans he.symm)⟩, q2 x (by omega) he.symm⟩
      · rw [if_neg he]
        refine ⟨(hal p hp).1, fun u => ((hal p hp).2 u).trans ⟨fun q => ⟨q.1, fun j hj hcj => ?_⟩, fun q => ⟨q.1, fun j hj => q.2 j (by omega)⟩⟩⟩
        by_cases hjx : j = x
        · rw [hjx] at hcj
          exact absurd hcj.symm he
        · exact q.2 j (by omega) hcj)
    refine ⟨b, a', ?_, Sm_tr (Sm_A Sm_rfl (by decide)) e2, e3⟩
    rw [e_X3_leastAround_80, if_neg (nI_ge (by omega) (by omega)), eo, digit_B hB (by omega) (by omega), ea, show nI x + 1 = nI (x + 1) from nI_1 x]
    exact e1
theorem la57 {d R w n0 r : Nat} {pl tu mem : Nat → Nat} {g : xG} (hw : w ≤ 3) (hn1 : 1 ≤ n0) (hn : n0 + d ≤ 5) (hR8 : R ≤ 8) (hRR : ∀ r, r < R → 1 ≤ pl r ∧ pl r + d ≤ 5) :
    ∀ (m t n : Nat) (a : xA) (X : Nat), t + m = d ^ n0 → m < n → Bas d g a → g 5 = nI (d ^ w) → (∀ κ, κ < 729 → Fit (a 15 κ) (SK d R w r pl tu κ) (d ^ (5 - d))) → X < 2 ^ (d ^ n0) → (∀ i, X.testBit i = true ↔ i < t ∧ AR d R w n0 r pl tu mem i) →
    ∃ (X' : Nat) (a' : xA), f_X3_leastAround_57 n g a (nI n0) (nI (nm d (fun q => sp d (mem q)) w)) (nI X) (nI t) = some (nI X', g, a') ∧ Sm [] [16, 17, 18] g a g a' ∧ ∀ i, X'.testBit i = true ↔ i < d ^ n0 ∧ AR d R w n0 r pl tu mem i
  | 0, t, n, a, X, ht, hn', hB, h5, hF, hX, h => by
    obtain ⟨n, rfl⟩ := pos_of hn'
    have h9 := pw9 hB.1 hn
    have e : t = d ^ n0 := by omega
    subst e
    refine ⟨X, a, ?_, Sm_rfl, h⟩
    rw [e_X3_leastAround_57, power_B hB (by omega), if_pos (nI_le (Nat.le_refl _) (by omega))]
  | m + 1, t, n, a, X, ht, hn', hB, h5, hF, hX, h => by
    obtain ⟨n, rfl⟩ := pos_of hn'
    have hd := hB.1
    have h9 := pw9 hd hn
    obtain ⟨f, f1, f2⟩ := allowS hB
    have hX9 : X < 2 ^ 9 := Nat.lt_of_lt_of_le hX (Nat.pow_le_pow_right (by decide) h9)
    have hd8 : 2 ^ d - 1 < 8 := by rcases hd with rfl | rfl <;> decide
    obtain ⟨b, a1, e1, e2, e3⟩ := la80 (R := R) (r := r) (pl := pl) (tu := tu) (X := X) (mem := mem) hw hn1 hn hR8 hRR (t := t) (by omega) hX9 (K := f_X3_leastAround_57 n) n0 0 fu (upA a 16 f) (fun _ => 2 ^ d - 1) (by omega) (fu_gt (by omega)) (Bas_fr hB rfl (upA_n _ _ (by decide)) (upA_n _ _ (by decide))) h5 (fun κ hκ => by rw [upA_n _ _ (by decide)]; exact hF κ hκ) (fun p hp => by rw [upA_s]; exact f2 p hp) (fun p hp => ⟨hd8, fun u => by
      rw [Nat.testBit_two_pow_sub_one, decide_eq_true_iff]
      exact ⟨fun q => ⟨q, fun j hj => by omega⟩, fun q => q.1⟩⟩)
    have s2 : Sm [] [16, 17, 18] g a g a1 := Sm_tr (Sm_A Sm_rfl (by decide)) e2
    obtain ⟨X', a2, k1, k2, k3⟩ := la57 (R := R) (r := r) (pl := pl) (tu := tu) (mem := mem) hw hn1 hn hR8 hRR m (t + 1) n a1 (if b then X ||| 2 ^ t else X) (by omega) (by omega) (Bas_sm hB s2) h5 (fun κ hκ => by rw [congrFun (s2.2 15 (by decide)) κ]; exact hF κ hκ) (by
      split
      · exact or_lt hX (by omega)
      · exact hX) (by
      cases hb : b with
      | true =>
        rw [if_pos rfl]
        exact acc_yes h (e3.mp hb)
      | false =>
        rw [if_neg (by decide)]
        exact acc_no h (fun q => by rw [e3.mpr q] at hb; cases hb))
    refine ⟨X', a2, ?_, Sm_tr s2 k2, k3⟩
    rw [e_X3_leastAround_57, power_B hB (by omega), if_neg (nI_ge (by omega) (by omega)), f1, Option.bind_some]
    exact e1.trans k1
/-! around, the model. -/
theorem am132 {d R w r : Nat} {pl tu T : Nat → Nat} {g : xG} (hd : d = 2 ∨ d = 3) (h0 : g 0 = nI d) (hr : r < 8) {K : xG → xA → Int32 → Int32 → Int32 → Int32 → Int32 → Option (Int32 × xG × xA)} {x3 x4 x5 : Int32} :
    ∀ (m k n : Nat) (a : xA) (b0 : Bool), k + m = R → m < n → RM d R pl tu g a → OpM d 6 w T a →
    ∃ (b : Bool) (a' : xA), f_X12_around_132 K n g a (nI r) (nI w) x3 x4 x5 (if b0 then 1 else 0) (nI k) = f_X12_around_177 K g a' (nI r) (nI w) x3 x4 x5 (if b then 1 else 0) ∧ Sm [] [11] g a g a' ∧ (b = true ↔ b0 = true ∧ ∀ r', k ≤ r' → r' < R → r' ≠ r → bdiff (im d w T (pl r') (tu r')) (tu r') = 0)
  | 0, k, n, a, b0, hk, hn, hR, hO => by
    obtain ⟨n, rfl⟩ := pos_of hn
    have hR8 := hR.1
    refine ⟨b0, a, ?_, Sm_rfl, fun q => ⟨q, fun r h1 h2 => by omega⟩, fun q => q.1⟩
    rw [e_X12_around_132, hR.2.1, if_pos (nI_le (by omega) (by omega))]
  | m + 1, k, n, a, b0, hk, hn, hR, hO => by
    obtain ⟨n, rfl⟩ := pos_of hn
    have hR8 := hR.1
    obtain ⟨r1, r3, r5, r6, r7⟩ := hR.2.2 k (by omega)
    rw [e_X12_around_132, hR.2.1, if_neg (nI_ge (by omega) (by omega)), show nI k + 1 = nI (k + 1) from nI_1 k]
    cases b0 with
    | false =>
      refine ⟨false, a, ?_, Sm_rfl, fun q => (by cases q), fun q => q.1⟩
      rw [if_pos (by decide)]
    | true =>
      rw [if_neg (by decide)]
      by_cases hkr : k = r
      · rw [if_pos (by rw [hkr])]
        obtain ⟨b, a2, q1, q2, q3⟩ := am132 hd h0 hr (K := K) (x3 := x3) (x4 := x4) (x5 := x5) m (k + 1) n a true (by omega) (by omega) hR hO
        refine ⟨b, a2, q1, q2, q3.trans ⟨fun q => ⟨rfl, fun r' k1 k2 k3 => q.2 r' (by omega) k2 k3⟩, fun q => ⟨rfl, fun r' k1 k2 k3 => q.2 r' (by omega) k2 k3⟩⟩⟩
      · rw [if_neg (fun h => hkr ((nI_eqs (by omega) (by omega)).mp h))]
        obtain ⟨a1, e1, e2⟩ := keep_i hd h0 (n0 := pl k) (by omega) r7 hO (r := k) (by omega) r1 r3
        rw [show f_X12_doesKeep g a 6 (nI w) (nI k) = _ from e1, Option.bind_some]
        dsimp only
        by_cases hz : bdiff (im d w T (pl k) (tu k)) (tu k) = 0
        · obtain ⟨b, a2, q1, q2, q3⟩ := am132 hd h0 hr (K := K) (x3 := x3) (x4 := x4) (x5 := x5) m (k + 1) n a1 true (by omega) (by omega) (RM_sm hR (SmM_of e2)) (OpM_sm hO e2)
          refine ⟨b, a2, ?_, Sm_tr e2 q2, q3.trans ⟨fun q => ⟨rfl, fun r' k1 k2 k3 => ?_⟩, fun q => ⟨rfl, fun r' k1 k2 k3 => q.2 r' (by omega) k2 k3⟩⟩⟩
          · rw [if_pos hz, if_neg (show ¬ nI 1 = 0 by decide)]
            exact q1
          · by_cases he : r' = k
            · rw [he]; exact hz
            · exact q.2 r' (by omega) k2 k3
        · obtain ⟨b, a2, q1, q2, q3⟩ := am132 hd h0 hr (K := K) (x3 := x3) (x4 := x4) (x5 := x5) m (k + 1) n a1 false (by omega) (by omega) (RM_sm hR (SmM_of e2)) (OpM_sm hO e2)
          refine ⟨b, a2, ?_, Sm_tr e2 q2, q3.trans ⟨fun q => (by cases q.1), fun q => absurd (q.2 k (Nat.le_refl _) (by omega) hkr) hz⟩⟩
          rw [if_neg hz, if_pos (show nI 0 = 0 from rfl)]
          exact q1
theorem am188 {d w n0 r T : Nat} {Tb mem : Nat → Nat} {g : xG} (hd : d = 2 ∨ d = 3) (h0 : g 0 = nI d) (hr : r < 8) (hn : n0 ≤ 6) (hw : w = pc T 9) (hw3 : w ≤ 3) (hT : T < 2 ^ 9) (hm : ∀ t, t < 31 → T.testBit t = true → mem (pc T t) = t) {K : xG → xA → Int32 → Int32 → Int32 → Int32 → Int32 → Option (Int32 × xG × xA)} {x3 x4 x5 : Int32} :
    ∀ (m t n : Nat) (a : xA), t + m = 9 → m < n → a 1 r = nI n0 → a 2 r = nI T → OpM d 6 w Tb a → (∀ i, i < pc T t → a 11 i = nI (mem i) ∧ mem i < 27) →
    ∃ a', f_X12_around_188 K n g a (nI r) (nI w) x3 x4 x5 (nI (pc T t)) (nI t) = K g a' (nI r) (nI w) x3 (x4 ||| ((1 : Int32) <<< (nI (apl d w Tb n0 mem) &&& 31))) (x5 + 1) ∧ Sm [] [11] g a g a'
  | 0, t, n, a, ht, hn', h1, h2, hO, hx => by
    obtain ⟨n, rfl⟩ := pos_of hn'
    have e : t = 9 := by omega
    subst e
    refine ⟨a, ?_, Sm_rfl⟩
    rw [e_X12_around_188, if_pos (show (9 : Int32) ≤ nI 9 by decide), ck_t (inB_t hr (by decide)), nI_clamp (by omega), h1, show f_X12_applied g a 6 (nI w) (nI n0) = _ from apM (op := 6) hd h0 hO hn (fun p hp => hx p (by omega)), Option.bind_some]
  | m + 1, t, n, a, ht, hn', h1, h2, hO, hx => by
    obtain ⟨n, rfl⟩ := pos_of hn'
    rw [e_X12_around_188, if_neg (show ¬ (9 : Int32) ≤ nI t from nI_ge (a := t) (b := 9) (by omega) (by decide)), ck_t (inB_t hr (by decide)), nI_clamp (by omega), h2, isInM (by omega) (by omega), show nI t + 1 = nI (t + 1) from nI_1 t]
    cases hb : T.testBit t with
    | false =>
      obtain ⟨a', e1, e2⟩ := am188 hd h0 hr hn hw hw3 hT hm (K := K) (x3 := x3) (x4 := x4) (x5 := x5) m (t + 1) n a (by omega) (by omega) h1 h2 hO (by rw [pc_s0 hb]; exact hx)
      rw [pc_s0 hb] at e1
      refine ⟨a', ?_, e2⟩
      rw [if_pos (by decide)]
      exact e1
    | true =>
      have hpt : pc T t < 3 := by
        have h3 : pc T (t + 1) ≤ pc T 9 := by
          obtain ⟨k, hk⟩ : ∃ k, 9 = t + 1 + k := ⟨9 - (t + 1), by omega⟩
          rw [hk]
          clear hk hx hO h1 h2 ht hn'
          induction k with
          | zero => exact Nat.le_refl _
          | succ k ih =>
            show _ ≤ pc T (t + 1 + k) + _
            omega
        rw [pc_s1 hb] at h3
        omega
      have s1 : Sm [] [11] g a g (upA a 11 (upd (a 11) (pc T t) (nI t))) := Sm_A Sm_rfl (by decide)
      obtain ⟨a', e1, e2⟩ := am188 hd h0 hr hn hw hw3 hT hm (K := K) (x3 := x3) (x4 := x4) (x5 := x5) m (t + 1) n (upA a 11 (upd (a 11) (pc T t) (nI t))) (by omega) (by omega) (by rw [upA_n _ _ (by decide)]; exact h1) (by rw [upA_n _ _ (by decide)]; exact h2) (OpM_sm hO s1) (fun i hi => by
        rw [upA_s]
        by_cases he : i = pc T t
        · rw [he, upd_s, hm t (by omega) hb]
          exact ⟨rfl, by omega⟩
        · rw [upd_n _ _ he]
          rw [pc_s1 hb] at hi
          exact hx i (by omega))
      rw [pc_s1 hb] at e1
      refine ⟨a', ?_, Sm_tr s1 e2⟩
      rw [if_neg (by decide), ck_t (inB_t hpt (by decide)), nI_clamp (by omega), show nI (pc T t) + 1 = nI (pc T t + 1) from nI_1 _]
      exact e1
theorem am113 {d R w n0 r N : Nat} {pl tu mem : Nat → Nat} {g : xG} (hd : d = 2 ∨ d = 3) (h0 : g 0 = nI d) (hr : r < R) (hn1 : 1 ≤ n0) (hn : n0 + d ≤ 5) (hpl : pl r = n0) (hw : w = pc (tu r) 9) (hw1 : 1 ≤ w) (hw3 : w ≤ 3) (hT : tu r < 2 ^ 9) (hm : ∀ t, t < 31 → (tu r).testBit t = true → mem (pc (tu r) t) = t) (hN : N < 20000) :
    ∀ (m c n : Nat) (a : xA) (X : Nat), c + m = N → m < n → RM d R pl tu g a → X < 2 ^ (d ^ n0) → (∀ i, X.testBit i = true ↔ ∃ c', c' < c ∧ (∀ r', r' < R → r' ≠ r → bdiff (im d w (dg d c') (pl r') (tu r')) (tu r') = 0) ∧ apl d w (dg d c') n0 mem = i) →
    ∃ (X' : Nat) (a' : xA), f_X12_around_113 n g a (nI r) (nI w) (nI N) (nI X) (nI c) = some (nI X', g, a') ∧ SmM g a g a' ∧ ∀ i, X'.testBit i = true ↔ ∃ c', c' < N ∧ (∀ r', r' < R → r' ≠ r → bdiff (im d w (dg d c') (pl r') (tu r')) (tu r') = 0) ∧ apl d w (dg d c') n0 mem = i
  | 0, c, n, a, X, hc, hn', hR, hX, h => by
    obtain ⟨n, rfl⟩ := pos_of hn'
    have e : c = N := by omega
    subst e
    refine ⟨X, a, ?_, SmM_rfl, h⟩
    rw [e_X12_around_113, if_pos (nI_le (Nat.le_refl _) (by omega))]
  | m + 1, c, n, a, X, hc, hn', hR, hX, h => by
    obtain ⟨n, rfl⟩ := pos_of hn'
    have hd0 : 0 < d := by omega
    have hR8 := hR.1
    have h9 := pw9 hd hn
    obtain ⟨a1, e1, e2, e3⟩ := triesM (a := a) hd h0 (w := w) (code := c) hw1 hw3 (by omega)
    obtain ⟨b, a2, e4, e5, e6⟩ := am132 (R := R) (pl := pl) (tu := tu) (r := r) hd h0 (by omega) (K := f_X12_around_113 n) (x3 := nI N) (x4 := nI X) (x5 := nI c) R 0 fu a1 true (by omega) (fu_gt (by omega)) (RM_sm hR e2) e3
    have s2 : SmM g a g a2 := SmM_tr e2 (SmM_of e5)
    have hR2 := RM_sm hR s2
    have e6' : b = true ↔ ∀ r', r' < R → r' ≠ r → bdiff (im d w (dg d c) (pl r') (tu r')) (tu r') = 0 := e6.trans ⟨fun q r' k1 k2 => q.2 r' (Nat.zero_le _) k1 k2, fun q => ⟨rfl, fun r' _ k1 k2 => q r' k1 k2⟩⟩
    have ee : f_X12_around_113 (n + 1) g a (nI r) (nI w) (nI N) (nI X) (nI c) = f_X12_around_177 (f_X12_around_113 n) g a2 (nI r) (nI w) (nI N) (nI X) (nI c) (if b = true then 1 else 0) := by
      rw [e_X12_around_113, if_neg (nI_ge (by omega) (by omega)), e1, Option.bind_some]
      exact e4
    unfold f_X12_around_177 at ee
    have hap : apl d w (dg d c) n0 mem < d ^ n0 := apl_lt hd0 (fun p _ => dg_lt hd0 _ _)
    cases hb : b with
    | false =>
      rw [hb, if_pos (by decide), show nI c + 1 = nI (c + 1) from nI_1 c] at ee
      obtain ⟨X', a3, k1, k2, k3⟩ := am113 hd h0 hr hn1 hn hpl hw hw1 hw3 hT hm hN m (c + 1) n a2 X (by omega) (by omega) hR2 hX (fun i => (h i).trans ⟨fun ⟨c', q1, q⟩ => ⟨c', by omega, q⟩, fun ⟨c', q1, q2, q3⟩ => ⟨c', by
        by_cases he : c' = c
        · rw [he] at q2
          rw [e6'.mpr q2] at hb
          cases hb
        · omega, q2, q3⟩⟩)
      exact ⟨X', a3, ee.trans k1, SmM_tr s2 k2, k3⟩
    | true =>
      rw [hb, if_neg (by decide)] at ee
      obtain ⟨r1, r3, _⟩ := hR2.2.2 r hr
      obtain ⟨a3, f1, f2⟩ := am188 (r := r) (T := tu r) (mem := mem) (n0 := n0) hd h0 (by omega) (by omega) hw hw3 hT hm (K := f_X12_around_113 n) (x3 := nI N) (x4 := nI X) (x5 := nI c) 9 0 fu a2 rfl (fu_gt (by omega)) (by rw [r1, hpl]) r3 (OpM_sm e3 e5) (fun i hi => by
        have : pc (tu r) 0 = 0 := rfl
        omega)
      rw [shl_nI (by omega), nI_or, show nI c + 1 = nI (c + 1) from nI_1 c] at f1
      have s3 : SmM g a g a3 := SmM_tr s2 (SmM_of f2)
      obtain ⟨X', a4, k1, k2, k3⟩ := am113 hd h0 hr hn1 hn hpl hw hw1 hw3 hT hm hN m (c + 1) n a3 (X ||| 2 ^ apl d w (dg d c) n0 mem) (by omega) (by omega) (RM_sm hR s3) (or_lt hX hap) (fun i => by
        rw [or_bit, h i]
        constructor
        · rintro (⟨c', q1, q⟩ | q)
          · exact ⟨c', by omega, q⟩
          · exact ⟨c, by omega, e6'.mp hb, q⟩
        · rintro ⟨c', q1, q2, q3⟩
          by_cases he : c' = c
          · rw [he] at q3
            exact Or.inr q3
          · exact Or.inl ⟨c', by omega, q2, q3⟩)
      exact ⟨X', a4, ee.trans (f1.trans k1), SmM_tr s3 k2, k3⟩
theorem AR_code {d R w n0 r : Nat} {pl tu mem : Nat → Nat} (hd : d = 2 ∨ d = 3) {i : Nat} : (i < d ^ n0 ∧ AR d R w n0 r pl tu mem i) ↔ ∃ c', c' < d ^ (d ^ w) ∧ (∀ r', r' < R → r' ≠ r → bdiff (im d w (dg d c') (pl r') (tu r')) (tu r') = 0) ∧ apl d w (dg d c') n0 mem = i := by
  have hd0 : 0 < d := by omega
  constructor
  · rintro ⟨_, f, f1, f2, f3⟩
    have heq : ∀ p, p < d ^ w → dg d (nm d f (d ^ w)) p = f p := fun p hp => nm_dg hd0 (d ^ w) f1 p hp
    refine ⟨nm d f (d ^ w), nm_lt _ f1, fun r' q1 q2 => ?_, ?_⟩
    · rw [im_cong hd0 (fun p _ => dg_lt hd0 _ _) heq]
      exact f2 r' q1 q2
    · rw [apl_cong hd0 heq (fun _ _ => rfl)]
      exact f3
  · rintro ⟨c, c1, c2, rfl⟩
    exact ⟨apl_lt hd0 (fun p _ => dg_lt hd0 _ _), dg d c, fun p _ => dg_lt hd0 _ _, c2, rfl⟩
