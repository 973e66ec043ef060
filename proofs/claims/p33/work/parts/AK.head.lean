/-! define: the head's tuples, on both sides. -/
def QHZ (d C : Nat) (P : Nat → Nat) (cv : Nat → Nat → Nat) (TC : Nat → Nat) (k : Nat) (hd : Nat → Nat) (p : Nat) (t : Nat) : Prop := ∃ code, code < p ∧ SolC d C P cv TC (dg d code) ∧ nm d (fun i => dg d code (hd i)) k = t
theorem df71 {d k : Nat} {hd : Nat → Nat} {g : xG} {a : xA} (hd2 : d = 2 ∨ d = 3) (h0 : g 0 = nI d) (hk : k + d ≤ 5) (h6 : ∀ i, i < k → a 6 i = nI (hd i) ∧ hd i < 6) {code Y : Nat} (hcode : code < 2 ^ 31) {K : xG → xA → Int32 → Int32 → Option (Int32 × xG × xA)} :
    ∀ (p r n : Nat), p + r = k → p < n → f_X12_define_71 K n g a (nI Y) (nI code) (nI (nm d (fun q => dg d code (hd (p + q))) r)) (nI p + -nI 1) = K g a (nI (Y ||| 2 ^ nm d (fun i => dg d code (hd i)) k)) (nI (code + 1))
  | 0, r, n, hp, hn => by
    obtain ⟨n, rfl⟩ := pos_of hn
    have e : r = k := by omega
    subst e
    have hl := nm_lt (d := d) (f := fun q => dg d code (hd q)) r (fun p hp => dg_lt (by omega) _ _)
    have hp9 := pw9 hd2 hk
    rw [e_X12_define_71, if_pos (show nI 0 + -nI 1 < 0 from m1z), hn_0 d (fun q => dg d code (hd q)), shl_nI (by omega), nI_or, show nI code + 1 = nI (code + 1) from nI_1 code]
  | p + 1, r, n, hp, hn => by
    obtain ⟨n, rfl⟩ := pos_of hn
    have hpv := h6 p (by omega)
    rw [e_X12_define_71, m1p, if_neg (nI_pos (by omega)), h0]
    simp only [z0, z1, z2, z3, z4, z5, z6, z7, z8, z9, z16, z27, z31, z32, z36, z60, nI_add, pk_mul, m1s]
    rw [ck_t (inB_t (by omega) (by decide)), nI_clamp (by omega), hpv.1, onM hd2 (by omega) h0 hcode, Option.bind_some, nI_add, hn_sh d (fun q => dg d code (hd q))]
    exact df71 hd2 h0 hk h6 hcode p (r + 1) n (by omega) (by omega)
theorem QHZ_s {d C : Nat} {P : Nat → Nat} {cv : Nat → Nat → Nat} {TC : Nat → Nat} {k : Nat} {hd : Nat → Nat} {p t : Nat} : QHZ d C P cv TC k hd (p + 1) t ↔ QHZ d C P cv TC k hd p t ∨ (SolC d C P cv TC (dg d p) ∧ nm d (fun i => dg d p (hd i)) k = t) := by
  constructor
  · rintro ⟨c, h1, h2⟩
    by_cases z : c = p
    · rw [z] at h2
      exact Or.inr h2
    · exact Or.inl ⟨c, by omega, h2⟩
  · rintro (⟨c, h1, h2⟩ | h2)
    · exact ⟨c, by omega, h2⟩
    · exact ⟨p, by omega, h2⟩
theorem df43 {d R C k : Nat} {pl tu cr : Nat → Nat} {cv : Nat → Nat → Nat} {hd : Nat → Nat} {g : xG} {a : xA} (hd2 : d = 2 ∨ d = 3) (hM : HMZ d R C pl tu cr cv g a) (hk1 : 1 ≤ k) (hk : k + d ≤ 5) (h4 : g 4 = nI k) (h6 : ∀ i, i < k → a 6 i = nI (hd i) ∧ hd i < 6) (h1 : g 1 = nI R) (hR : R < 8) :
    ∀ (r p n Y : Nat), p + r = d ^ 6 → r < n → (∀ t, Y.testBit t = true ↔ QHZ d C (PPz pl cr) cv (TTz d tu cr) k hd p t) → ∃ Y', f_X12_define_43 n g a (nI Y) (nI p) = some (nI R, upd (upd g 3 0) 1 (nI (R + 1)), upA (upA a 1 (upd (a 1) R (nI k))) 2 (upd (a 2) R (nI Y'))) ∧ ∀ t, Y'.testBit t = true ↔ QHZ d C (PPz pl cr) cv (TTz d tu cr) k hd (d ^ 6) t
  | 0, p, n, Y, hp, hn, hY => by
    obtain ⟨n, rfl⟩ := pos_of hn
    have e : p = d ^ 6 := by omega
    subst e
    have h7 := pw6 hd2 (Nat.le_refl 6)
    have e1 : (upd g 3 0) 1 = nI R := (upd_n _ _ (by decide)).trans h1
    have e4 : (upd g 3 0) 4 = nI k := (upd_n _ _ (by decide)).trans h4
    refine ⟨Y, ?_, hY⟩
    rw [e_X12_define_43, show f_X12_power g a 6 = some (nI (d ^ 6)) from pwM (by decide) hM.2.2.1, Option.bind_some, if_pos (nI_le (Nat.le_refl _) (by omega)), e1, e4, ck_t (inB_t hR (by decide)), ck_t (inB_t hR (by decide)), nI_1, nI_clamp (by omega), upd_s (upd g 3 0) 1, nI_pred, upA_n a (r := 1) (j := 2) _ (by decide)]
  | r + 1, p, n, Y, hp, hn, hY => by
    obtain ⟨n, rfl⟩ := pos_of hn
    have h7 := pw6 hd2 (Nat.le_refl 6)
    obtain ⟨b, b1, b2⟩ := holdM hd2 hM (code := p) (by omega)
    rw [e_X12_define_43, show f_X12_power g a 6 = some (nI (d ^ 6)) from pwM (by decide) hM.2.2.1, Option.bind_some, if_neg (nI_ge (by omega) (by omega)), b1, Option.bind_some]
    cases hb : b with
    | false =>
      rw [if_pos (by decide), nI_1]
      refine df43 hd2 hM hk1 hk h4 h6 h1 hR r (p + 1) n Y (by omega) (by omega) (fun t => (hY t).trans ((QHZ_s.trans ⟨fun q => q.elim id (fun q => ?_), Or.inl⟩).symm))
      rw [b2.mpr q.1] at hb
      cases hb
    | true =>
      rw [if_neg (by decide), h4, show nI k - 1 = nI k + -nI 1 from m1s _]
      have := df71 (K := f_X12_define_43 n) (Y := Y) (code := p) hd2 hM.2.2.1 hk h6 (by omega) k 0 fu (by omega) (fu_gt (by omega))
      rw [show f_X12_define_71 (f_X12_define_43 n) fu g a (nI Y) (nI p) 0 (nI k + -nI 1) = _ from this]
      refine df43 hd2 hM hk1 hk h4 h6 h1 hR r (p + 1) n _ (by omega) (by omega) (fun t => ?_)
      rw [or_bit, hY t, QHZ_s]
      exact ⟨fun q => q.elim Or.inl (fun q => Or.inr ⟨b2.mp hb, q⟩), fun q => q.elim Or.inl (fun q => Or.inr q.2)⟩
/-- the class: what stands in the head -/
def alH (d t : Nat) (hd al : Nat → Nat) (i : Nat) : Prop := ∀ v, v < 6 → al v < 8 ∧ ∀ u, (al v).testBit u = true ↔ u < d ∧ ∀ j, j < i → hd j = v → dg d t j = u
theorem th28 {d C k t X : Nat} {pl tu cr : Nat → Nat} {cv : Nat → Nat → Nat} {hd : Nat → Nat} {g : xG} (hk : k + d ≤ 5) (h7 : g 7 = nI k) (hd6 : ∀ i, i < k → hd i < 6) (ht : t < d ^ k) {K : xA → Int32 → Int32 → Option (Int32 × xA)} :
    ∀ (m i n : Nat) (a : xA) (al : Nat → Nat), i + m = k → m < n → Bas d g a → IZ d C pl tu cr cv g a → (∀ i, i < k → a 22 i = nI (hd i)) → (∀ v, v < 6 → a 29 v = nI (al v)) → alH d t hd al i →
    ∃ (b : Bool) (a' : xA), f_X1_tuplesOfHead_28 g K n a (nI X) (nI t) (nI i) = K a' (nI (if b then X ||| 2 ^ t else X)) (nI (t + 1)) ∧ Sm [] [29, 30] g a g a' ∧ (b = true ↔ QHZ d C (PPz pl cr) cv (TTz d tu cr) k hd (d ^ 6) t)
  | 0, i, n, a, al, hi, hn, hB, hI, h22, h29, hal => by
    obtain ⟨n, rfl⟩ := pos_of hn
    have hd2 := hB.1
    have hd0 : 0 < d := by omega
    have h9 := pw9 hd2 hk
    have e : i = k := by omega
    subst e
    have hIc := hI.2.2.2.2.2
    obtain ⟨f, s1, _, _⟩ := completedX (V := 6) (j := 0) (cr := cr) (cv := cv) (TC := fun c => tux d tu (cr c)) (al := al) hd2 hB.2.1 (fun c h => (hIc c h).2.2.2.2.2.2.1) 6 8 (by decide) (Nat.le_refl _) (Nat.le_refl _) a (fun _ => 0) 1 (Nat.le_refl _) (by decide) hI (fun v hv => ⟨h29 v hv, (hal v hv).1⟩) (fun v q1 q2 => by omega)
    have hmix : ∀ c v, v < 6 → mix d 6 (fun _ => 0) c v = dg d c v := fun c v hv => if_pos hv
    have hG : ∀ c, GS d C (fun c => plx pl (cr c)) cv (fun c => tux d tu (cr c)) al 6 (mix d 6 (fun _ => 0) c) ↔ (SolC d C (PPz pl cr) cv (TTz d tu cr) (dg d c) ∧ nm d (fun j => dg d c (hd j)) i = t) := fun c => by
      have eh : ∀ c', c' < C → hld d (PPz pl cr c') (TTz d tu cr c') (cv c') (mix d 6 (fun _ => 0) c) = hld d (PPz pl cr c') (TTz d tu cr c') (cv c') (dg d c) := fun c' hc => hld_cong fun p hp => hmix c _ ((hIc c' hc).2.2.2.2.2.2.2.2 p hp).2
      constructor
      · rintro ⟨q1, q2⟩
        refine ⟨fun c' hc => ?_, ?_⟩
        · rw [← eh c' hc]
          have hp1 : 1 ≤ plx pl (cr c') := (hIc c' hc).2.2.2.2.2.2.1
          have hl0 : lowv (cv c') (plx pl (cr c')) ≤ cv c' 0 := lowv_min (f := cv c') (n := plx pl (cr c')) (p := 0) hp1
          have hv0 : cv c' 0 < 6 := ((hIc c' hc).2.2.2.2.2.2.2.2 0 hp1).2
          exact q2 c' hc (show lowv (cv c') (plx pl (cr c')) < 6 by omega)
        · have e2 : nm d (fun j => dg d c (hd j)) i = nm d (dg d t) i := nm_cong fun j hj => by
            have := q1 (hd j) (hd6 j hj)
            rw [hmix c _ (hd6 j hj)] at this
            exact ((((hal _ (hd6 j hj)).2 _).mp this).2 j hj rfl).symm
          rw [e2, dg_nm hd0 i t ht]
      · rintro ⟨q1, q2⟩
        refine ⟨fun v hv => ?_, fun c' hc _ => ?_⟩
        · rw [hmix c v hv]
          refine ((hal v hv).2 _).mpr ⟨dg_lt hd0 _ _, fun j hj hjv => ?_⟩
          rw [← q2, ← hjv]
          exact nm_dg hd0 i (fun k _ => dg_lt hd0 _ _) j hj
        · exact (eh c' hc).trans (q1 c' hc)
    have hcb := cb_cong (P := fun c => GS d C (fun c => plx pl (cr c)) cv (fun c => tux d tu (cr c)) al 6 (mix d 6 (fun _ => 0) c)) (Q := fun c => SolC d C (PPz pl cr) cv (TTz d tu cr) (dg d c) ∧ nm d (fun j => dg d c (hd j)) i = t) (d ^ 6) (fun c _ => hG c)
    rw [e_X1_tuplesOfHead_28, h7, if_pos (nI_le (Nat.le_refl _) (by omega))]
    have e12 : g (12 + 2 * 0) = nI 6 := hI.2.2.2.1
    have hs : f_X2_hasSolution 0 g a = Option.bind (some (nI (min 1 (cb (fun c => SolC d C (PPz pl cr) cv (TTz d tu cr) (dg d c) ∧ nm d (fun j => dg d c (hd j)) i = t) (d ^ 6))), upA a 30 f)) (fun u1 => if u1.1 ≤ 0 then some (0, u1.2) else some (1, u1.2)) := by
      unfold f_X2_hasSolution
      rw [← hcb, e12, show nI 6 - 1 = nI 6 + -nI 1 from m1s _]
      exact congrArg (fun z => Option.bind z (fun u1 => if u1.1 ≤ 0 then some ((0 : Int32), u1.2) else some (1, u1.2))) s1
    rw [hs, Option.bind_some, nI_1]
    by_cases hz : 0 < cb (fun c => SolC d C (PPz pl cr) cv (TTz d tu cr) (dg d c) ∧ nm d (fun j => dg d c (hd j)) i = t) (d ^ 6)
    · rw [Nat.min_eq_left hz]
      obtain ⟨c, c1, c2⟩ := cb_ex hz
      refine ⟨true, upA a 30 f, ?_, Sm_A Sm_rfl (by decide), fun _ => ⟨c, c1, c2⟩, fun _ => rfl⟩
      rw [if_neg (show ¬ nI 1 ≤ 0 by decide), Option.bind_some, if_neg n10, shl_nI (by omega), nI_or]
      rfl
    · have hz0 : cb (fun c => SolC d C (PPz pl cr) cv (TTz d tu cr) (dg d c) ∧ nm d (fun j => dg d c (hd j)) i = t) (d ^ 6) = 0 := by omega
      refine ⟨false, upA a 30 f, ?_, Sm_A Sm_rfl (by decide), fun q => (by cases q), fun ⟨c, c1, c2⟩ => absurd c2 (cb_of0 _ hz0 c c1)⟩
      rw [hz0, show min 1 0 = 0 from rfl, if_pos (show nI 0 ≤ 0 by decide), Option.bind_some, if_pos rfl]
      rfl
  | m + 1, i, n, a, al, hi, hn, hB, hI, h22, h29, hal => by
    obtain ⟨n, rfl⟩ := pos_of hn
    have hd2 := hB.1
    have hd0 : 0 < d := by omega
    have h9 := pw9 hd2 hk
    have hdi := hd6 i (by omega)
    have hv := dg_lt hd0 t i
    have ea : t_X2_allowOnly 0 g a (nI (hd i)) (nI (dg d t i)) = upA a 29 (upd (a 29) (hd i) (nI (al (hd i) &&& 2 ^ dg d t i))) := by
      unfold t_X2_allowOnly
      show upA a 29 (putF 6 (a 29) (nI (hd i)) (atF 6 (a 29) (nI (hd i)) &&& (1 : Int32) <<< (nI (dg d t i) &&& 31))) = _
      rw [at_in (by omega) (by decide), h29 _ hdi, shl_nI (by omega), nI_and, put_in (by omega) (by decide)]
    obtain ⟨b, a', e1, e2, e3⟩ := th28 (X := X) (hd := hd) hk h7 hd6 ht (K := K) m (i + 1) n (upA a 29 (upd (a 29) (hd i) (nI (al (hd i) &&& 2 ^ dg d t i)))) (fun p => if p = hd i then al (hd i) &&& 2 ^ dg d t i else al p) (by omega) (by omega) (Bas_fr hB rfl rfl rfl) (IZ_fr hI rfl rfl rfl rfl rfl rfl rfl) h22 (fun p hp => by
      rw [upA_s]
      by_cases he : p = hd i
      · rw [if_pos he, he, upd_s]
      · rw [if_neg he, upd_n _ _ he]
        exact h29 p hp) (fun p hp => by
      dsimp only
      by_cases he : p = hd i
      · rw [if_pos he]
        refine ⟨Nat.lt_of_le_of_lt Nat.and_le_left (hal _ hdi).1, fun u => ?_⟩
        rw [and_bit, (hal _ hdi).2 u, Nat.testBit_two_pow, decide_eq_true_iff]
        constructor
        · rintro ⟨⟨q1, q2⟩, q3⟩
          refine ⟨q1, fun j hj hcj => ?_⟩
          by_cases hjx : j = i
          · rw [hjx]; exact q3
          · exact q2 j (by omega) (hcj.trans he)
        · rintro ⟨q1, q2⟩
          exact ⟨⟨q1, fun j hj hcj => q2 j (by omega) (hcj.trans he.symm)⟩, q2 i (by omega) he.symm⟩
      · rw [if_neg he]
        refine ⟨(hal p hp).1, fun u => ((hal p hp).2 u).trans ⟨fun q => ⟨q.1, fun j hj hcj => ?_⟩, fun q => ⟨q.1, fun j hj => q.2 j (by omega)⟩⟩⟩
        by_cases hjx : j = i
        · rw [hjx] at hcj
          exact absurd hcj.symm he
        · exact q.2 j (by omega) hcj)
    refine ⟨b, a', ?_, Sm_tr (Sm_A Sm_rfl (by decide)) e2, e3⟩
    rw [e_X1_tuplesOfHead_28, h7, if_neg (nI_ge (by omega) (by omega)), at_in (by omega) (by decide), h22 i (by omega), digit_B hB (by omega) (by omega), ea, nI_1]
    exact e1
theorem th4 {d C k : Nat} {pl tu cr : Nat → Nat} {cv : Nat → Nat → Nat} {hd : Nat → Nat} {g : xG} (hk : k + d ≤ 5) (h7 : g 7 = nI k) (hd6 : ∀ i, i < k → hd i < 6) :
    ∀ (r t n X : Nat) (a : xA), t + r = d ^ k → r < n → X < 2 ^ (d ^ k) → (∀ u, X.testBit u = true ↔ u < t ∧ QHZ d C (PPz pl cr) cv (TTz d tu cr) k hd (d ^ 6) u) → Bas d g a → IZ d C pl tu cr cv g a → (∀ i, i < k → a 22 i = nI (hd i)) →
    ∃ (X' : Nat) (a' : xA), f_X1_tuplesOfHead_4 g n a (nI X) (nI t) = some (nI X', a') ∧ Sm [] [29, 30] g a g a' ∧ X' < 2 ^ (d ^ k) ∧ ∀ u, X'.testBit u = true ↔ u < d ^ k ∧ QHZ d C (PPz pl cr) cv (TTz d tu cr) k hd (d ^ 6) u
  | 0, t, n, X, a, ht, hn, hX, hXb, hB, hI, h22 => by
    obtain ⟨n, rfl⟩ := pos_of hn
    have hd2 := hB.1
    have h9 := pw9 hd2 hk
    have e : t = d ^ k := by omega
    refine ⟨X, a, ?_, Sm_rfl, hX, by rw [← e]; exact hXb⟩
    rw [e_X1_tuplesOfHead_4, h7, power_B hB (by omega), if_pos (nI_le (by omega) (by omega))]
  | r + 1, t, n, X, a, ht, hn, hX, hXb, hB, hI, h22 => by
    obtain ⟨n, rfl⟩ := pos_of hn
    have hd2 := hB.1
    have h9 := pw9 hd2 hk
    have hd8 : 2 ^ d - 1 < 8 := by rcases hd2 with rfl | rfl <;> decide
    obtain ⟨f, f1, f2⟩ := allowA (j := 0) (by decide) hB
    obtain ⟨b, a1, e1, e2, e3⟩ := th28 (X := X) (t := t) (hd := hd) hk h7 hd6 (by omega) (K := f_X1_tuplesOfHead_4 g n) k 0 fu (upA a 29 f) (fun _ => 2 ^ d - 1) (by omega) (fu_gt (by omega)) (Bas_fr hB rfl rfl rfl) (IZ_fr hI rfl rfl rfl rfl rfl rfl rfl) h22 (fun v hv => (congrFun (upA_s a 29 f) v).trans (f2 v hv)) (fun v hv => ⟨hd8, fun u => by
      rw [Nat.testBit_two_pow_sub_one, decide_eq_true_iff]
      exact ⟨fun q => ⟨q, fun j hj => by omega⟩, fun q => q.1⟩⟩)
    have s1 : Sm [] [29, 30] g a g a1 := Sm_tr (Sm_A Sm_rfl (by decide)) e2
    obtain ⟨X', a', k1, k2, k3, k4⟩ := th4 (C := C) (pl := pl) (tu := tu) (cr := cr) (cv := cv) hk h7 hd6 r (t + 1) n (if b then X ||| 2 ^ t else X) a1 (by omega) (by omega) (by
      cases b with
      | false => exact hX
      | true => exact or_lt hX (by omega)) (fun u => by
      cases hb : b with
      | false =>
        show X.testBit u = true ↔ _
        rw [hXb u]
        refine ⟨fun q => ⟨by omega, q.2⟩, fun q => ⟨?_, q.2⟩⟩
        by_cases z : u = t
        · rw [z] at q
          rw [e3.mpr q.2] at hb
          cases hb
        · omega
      | true =>
        show (X ||| 2 ^ t).testBit u = true ↔ _
        rw [or_bit, hXb u]
        constructor
        · rintro (q | q)
          · exact ⟨by omega, q.2⟩
          · rw [← q]
            exact ⟨by omega, e3.mp hb⟩
        · intro q
          by_cases z : t = u
          · exact Or.inr z
          · exact Or.inl ⟨by omega, q.2⟩) (Bas_sm hB s1) (IZ_fr hI rfl rfl (s1.2 25 (by decide)) (s1.2 26 (by decide)) (s1.2 27 (by decide)) (s1.2 28 (by decide)) (s1.2 6 (by decide))) (by rw [s1.2 22 (by decide)]; exact h22)
    refine ⟨X', a', ?_, Sm_tr s1 k2, k3, k4⟩
    rw [e_X1_tuplesOfHead_4, h7, power_B hB (by omega), if_neg (nI_ge (by omega) (by omega)), show f_X2_allowAll 0 g a = some (upA a 29 f) from f1, Option.bind_some]
    exact e1.trans k1
