/-! What is typed, read: one atom, whole. -/
def CVZ (C : Nat) (cv : Nat → Nat → Nat) (x : Nat → Nat) : Nat → Nat → Nat := fun c => if c = C then x else cv c
def relM (r : Nat) : Int32 := if r = 8 then -1 else nI r
theorem x102 (p : Nat) : (102 : Int32) + nI p = 100 + nI (p + 1 + 1) := by
  rw [show (102 : Int32) = nI 102 from rfl, show (100 : Int32) = nI 100 from rfl, nI_add, nI_add, show 102 + p = 100 + (p + 1 + 1) by omega]
theorem x101 (p : Nat) : (101 : Int32) + nI p = 100 + nI (p + 1) := by
  rw [show (101 : Int32) = nI 101 from rfl, show (100 : Int32) = nI 100 from rfl, nI_add, nI_add, show 101 + p = 100 + (p + 1) by omega]
theorem atZ {d R T C p n : Nat} {pl tu ch cr : Nat → Nat} {cv : Nat → Nat → Nat} {g : xG} {a : xA} {gm : xG} {am : xA} (hP : PZ d R T pl tu ch g a gm am) (hC : C ≤ 14) (hm5 : gm 5 = nI C) (hp : p ≤ T) (hn : T < p + n) (h8 : g 8 = nI 1) (hI : IZ d C pl tu cr cv g a) :
    (∃ (q : Nat) (g' : xG) (a' am' : xA), q ≤ T ∧ f_X1_read_21 n g a (nI p) = some (nI q, g', a') ∧ f_X12_readsAtom gm am (nI p) = some (100 + nI q, am') ∧ Sm P1 Q1 g a g' a' ∧ Sm [] [7, 8] gm am gm am') ∨
    (∃ (q m r : Nat) (x : Nat → Nat) (g' : xG) (a' am' : xA), p + 3 ≤ q ∧ q ≤ T ∧ T < q + m ∧ (r < R ∨ r = 8) ∧ f_X1_read_21 n g a (nI p) = f_X1_read_21 m g' a' (nI q) ∧ f_X12_readsAtom gm am (nI p) = some (nI q, am') ∧ Sm P1 Q1 g a g' a' ∧ Sm [] [7, 8] gm am gm am' ∧ g' 8 = nI 7 ∧ IZ d (C + 1) pl tu (nup cr C r) (CVZ C cv x) g' a' ∧ am' 7 = upd (am 7) C (relM r) ∧ (∀ i, i < 3 * C → am' 8 i = am 8 i) ∧ ∀ j, j < plx pl r → am' 8 (3 * C + j) = nI (x j)) := by
  obtain ⟨n, rfl⟩ : ∃ m, n = m + 1 := pos_of (r := 0) (by omega)
  have hR := hP.2.1
  have hT := hP.2.2.1
  unfold f_X12_readsAtom
  by_cases hpT : p < T
  · have hc := sgn_lt (hP.2.2.2.2.2.2.2.2.2.1 p hpT).2.2
    have tk : f_X1_takes g a (nI (ch p)) = Option.bind (f_X1_takesAtBeginningOfAtom g a (nI (ch p))) (fun u6 => ck (boB u6.1) (some (u6.1, u6.2.1, u6.2.2))) := by
      unfold f_X1_takes
      rw [h8, if_neg (by decide), if_pos (show nI 1 = 1 from rfl)]
    rw [rd_step hP hpT, tk, vr_M hP hpT, sg_M hP hpT, Option.bind_some]
    unfold f_X1_takesAtBeginningOfAtom
    rcases vaK (upd g 10 0) a gm am hc with ⟨v1, v2, v3, v4, v5⟩ | ⟨v1, v2, v3⟩
    · rw [v1, v2, if_neg n10, if_neg n10, v5, Option.bind_some, ck_t bo1, Option.bind_some, if_neg n10, show nI p + 1 = nI (p + 1) from nI_1 p, show putF 3 (a 23) 0 (nI (ch p - 97)) = upd (a 23) 0 (nI (ch p - 97)) from put_in (i := 0) (by decide) (by decide)]
      obtain ⟨gA, hgA⟩ : ∃ gA, gA = upd (upd (upd (upd g 10 0) 9 8) 10 1) 8 2 := ⟨_, rfl⟩
      obtain ⟨aA, haA⟩ : ∃ aA, aA = upA a 23 (upd (a 23) 0 (nI (ch p - 97))) := ⟨_, rfl⟩
      have sA : Sm P1 Q1 g a gA aA := by
        rw [hgA, haA]
        exact Sm_A (Sm_G (Sm_G (Sm_G (Sm_G Sm_rfl (by decide)) (by decide)) (by decide)) (by decide)) (by decide)
      have eA : f_X1_read_21 n (1, upd (upd (upd (upd g 10 0) 9 8) 10 1) 8 2, upA a 23 (upd (a 23) 0 (nI (ch p - 97)))).2.1 (1, upd (upd (upd (upd g 10 0) 9 8) 10 1) 8 2, upA a 23 (upd (a 23) 0 (nI (ch p - 97)))).2.2 (nI (p + 1)) = f_X1_read_21 n gA aA (nI (p + 1)) := by rw [hgA, haA]
      have hPA := PZ_fr hP (SmPA sA) SmM_rfl
      have g8 : gA 8 = nI 2 := by rw [hgA]; rfl
      have g9 : gA 9 = nI 8 := by rw [hgA]; rfl
      have g10 : gA 10 = nI 1 := by rw [hgA]; rfl
      have hIA : IZ d C pl tu cr cv gA aA := by rw [hgA, haA]; exact IZ_fr hI rfl rfl rfl rfl rfl rfl rfl
      have hxA : ∀ j, j < 1 → aA 23 j = nI ((fun _ => ch p - 97) j) ∧ (fun _ => ch p - 97) j < 6 := fun j hj => by
        have e : j = 0 := by omega
        rw [e, haA]
        exact ⟨rfl, v4⟩
      refine (show _ = f_X1_read_21 n gA aA (nI (p + 1)) from eA) ▸ ?_
      rw [sg_A hP (p := p + 1) (by omega), Option.bind_some]
      rcases rd_ju hPA (p := p + 1) (n := n) (x := 61) (y := 4) (by omega) (by omega) (Or.inl ⟨rfl, rfl, rfl⟩) g8 with ⟨j1, j2, m', j3, j4⟩ | ⟨j1, g', j2, j3⟩
      · rw [j1, if_pos (show nI 61 = 61 from rfl), j4]
        have s2 : Sm P1 Q1 g a (upd gA 8 (nI 4)) aA := Sm_tr sA (Sm_G Sm_rfl (by decide))
        have hP2 := PZ_fr hP (SmPA s2) SmM_rfl
        rw [show nI p + 2 = nI (p + 2) from nI_add p 2]
        rcases rd_var (r := 8) (i := 1) hP2 (q := p + 1 + 1) (n := m') (by omega) (by omega) rfl g9 g10 (Or.inr rfl) (show 1 < 2 by decide) (by omega) (IZ_fr hIA rfl rfl rfl rfl rfl rfl rfl) hxA with ⟨w1, w2⟩ | ⟨hqT, y, m, g1, a1, y6, hm, w1, w2, w3, w4, w5, w6, w7, w8⟩
        · rw [show p + 2 = p + 1 + 1 from rfl, w1, w2, Option.bind_some, if_pos rfl]
          refine Or.inl ⟨p + 1 + 1, _, _, am, by omega, rfl, ?_, s2, Sm_rfl⟩
          exact congrArg (fun z => some (z, am)) (x102 p)
        · rw [show p + 2 = p + 1 + 1 from rfl, w1, w4, Option.bind_some, if_neg n10, hm5, ck_t (inB_t (by omega) (by decide)), show f_X12_signAt gm (upA am 7 (upd (am 7) (nI C).toNatClampNeg (-1))) (nI p) = some (nI (ch p)) from sg_M hP hpT, Option.bind_some]
          rw [show (3 : Int32) * nI C = nI (3 * C) from pk_mul 3 C, ck_t (inB_t (by omega) (by decide)), show f_X12_signAt gm (upA (upA am 7 (upd (am 7) (nI C).toNatClampNeg (-1))) 8 (upd ((upA am 7 (upd (am 7) (nI C).toNatClampNeg (-1))) 8) (nI (3 * C)).toNatClampNeg (nI (ch p) - 97))) (nI (p + 1 + 1)) = some (nI (ch (p + 1 + 1))) from sg_M hP hqT, Option.bind_some, show nI (3 * C) + (1 : Int32) = nI (3 * C + 1) from nI_1 _, ck_t (inB_t (by omega) (by decide)), show nI p + 3 = nI (p + 1 + 1 + 1) from nI_add p 3, w3, v5, nI_clamp (by omega), nI_clamp (by omega), nI_clamp (by omega)]
          obtain ⟨z8, zI⟩ := w8 rfl
          refine Or.inr ⟨p + 1 + 1 + 1, m, 8, _, g1, a1, _, by omega, by omega, by omega, Or.inr rfl, rfl, rfl, Sm_tr s2 w5, Sm_A (Sm_A (Sm_A Sm_rfl (by decide)) (by decide)) (by decide), z8, zI, rfl, fun k hk => ?_, fun j hj => ?_⟩
          · show (upd (upd (am 8) (3 * C) (nI (ch p - 97))) (3 * C + 1) (nI y)) k = _
            rw [upd_n _ _ (by omega), upd_n _ _ (by omega)]
          · show (upd (upd (am 8) (3 * C) (nI (ch p - 97))) (3 * C + 1) (nI y)) (3 * C + j) = _
            have hj2 : j < 2 := hj
            rcases (by omega : j = 0 ∨ j = 1) with rfl | rfl
            · rw [upd_n _ _ (by omega)]
              exact (upd_s ..).trans (congrArg nI (nup_n (fun _ => ch p - 97) (j := 0) (k := 1) y (by decide)).symm)
            · exact (upd_s ..).trans (congrArg nI (nup_s (fun _ => ch p - 97) 1 y).symm)
      · rw [if_neg (show ¬ nI (sgT T ch (p + 1)) = 61 from fun e => j1 ((nI_eq (b := 61) (by have := sgT_lt hP (p + 1); omega) (by decide)).mp e)), j2]
        refine Or.inl ⟨p + 1, g', aA, am, by omega, rfl, ?_, Sm_tr sA j3, Sm_rfl⟩
        exact congrArg (fun z => some (z, am)) (x101 p)
    · rw [v1, v2, if_pos rfl, if_pos rfl, Option.bind_some]
      obtain ⟨v, hv⟩ : ∃ v, v = nI (ch p) - 48 := ⟨_, rfl⟩
      rw [← hv]
      obtain ⟨G, hG⟩ : ∃ G, G = upd (upd (upd g 10 0) 9 v) 8 3 := ⟨_, rfl⟩
      have sG : Sm P1 Q1 g a G a := by
        rw [hG]
        exact Sm_G (Sm_G (Sm_G Sm_rfl (by decide)) (by decide)) (by decide)
      have hPG := PZ_fr hP (SmPA sG) SmM_rfl
      rw [← hG, show G 9 = v by rw [hG]; rfl]
      rcases ix3 v (R := R) (by omega) with ⟨k1, k2⟩ | ⟨r, hr, rfl⟩
      · rw [there_0 hPG.2.2.2.2.1 k1, ck_t bo0, Option.bind_some, ck_t bo0, Option.bind_some, if_pos rfl]
        refine Or.inl ⟨p, G, a, am, hp, rfl, ?_, sG, Sm_rfl⟩
        by_cases z : t_X12_in gm am v 0 7 = 0
        · rw [if_pos z]
        · unfold f_X12_isRelation
          rw [if_neg z, hP.2.2.2.2.2.2.2.1, inR_0 k2, ck_t bo0, Option.bind_some, if_pos rfl]
      · unfold f_X12_isRelation
        rw [there_1 hPG.2.2.2.2.1 hr (by omega), ck_t bo1, Option.bind_some, ck_t bo1, Option.bind_some, if_neg n10, show t_X12_in gm am (nI r) 0 7 = 1 from in_1 (lo := 0) (hi := 7) (by omega) (by omega) (by decide), if_neg n10, hP.2.2.2.2.2.2.2.1, inR_1 hr (by omega), ck_t bo1, Option.bind_some, if_neg n10, show nI p + 1 = nI (p + 1) from nI_1 p, sg_A hP (p := p + 1) (by omega), Option.bind_some]
        have g8 : G 8 = nI 3 := by rw [hG]; rfl
        have g9 : G 9 = nI r := by rw [hG]; rfl
        have g10 : G 10 = nI 0 := by rw [hG]; rfl
        have hIG : IZ d C pl tu cr cv G a := by rw [hG]; exact IZ_fr hI rfl rfl rfl rfl rfl rfl rfl
        obtain ⟨_, _, rp, rp5, _⟩ := hP.2.2.2.2.2.2.2.2.2.2.1 r (Or.inl hr)
        rw [plx_r (by omega)] at rp rp5
        rcases rd_ju hPG (p := p + 1) (n := n) (x := 40) (y := 4) (by omega) (by omega) (Or.inr (Or.inl ⟨rfl, rfl, rfl⟩)) g8 with ⟨j1, j2, m', j3, j4⟩ | ⟨j1, g', j2, j3⟩
        · have s2 : Sm P1 Q1 g a (upd G 8 (nI 4)) a := Sm_tr sG (Sm_G Sm_rfl (by decide))
          rw [j1, if_pos (show nI 40 = 40 from rfl), j4, hm5, show (3 : Int32) * nI C = nI (3 * C) from pk_mul 3 C, nI_1]
          rcases atV hr hC hm5 (pl r - 1) 0 (p + 1 + 1) m' fu (fun _ => 0) (upd G 8 (nI 4)) a am (by omega) (by omega) (by omega) (fu_gt (by have := hP.1; omega)) (PZ_fr hP (SmPA s2) SmM_rfl) rfl g9 g10 (IZ_fr hIG rfl rfl rfl rfl rfl rfl rfl) (fun j hj => by omega) (fun j hj => by omega) with ⟨q', g', a', am', w1, w2, w3, w4, w5⟩ | ⟨q', m2, x', g', a', am', w0, w1, w2, w3, w4, w5, w6, w7, w8, w9, w10, w11⟩
          · exact Or.inl ⟨q', g', a', am', w1, w2, w3, Sm_tr s2 w4, w5⟩
          · refine Or.inr ⟨q', m2, r, x', g', a', am', by omega, w1, w2, Or.inl hr, w3, w4, Sm_tr s2 w5, w6, w7, w8, ?_, w10, ?_⟩
            · rw [w9]
              exact congrArg (upd (am 7) C) (if_neg (by omega)).symm
            · rw [plx_r (by omega)]
              exact w11
        · rw [if_neg (show ¬ nI (sgT T ch (p + 1)) = 40 from fun e => j1 ((nI_eq (b := 40) (by have := sgT_lt hP (p + 1); omega) (by decide)).mp e)), j2]
          exact Or.inl ⟨p + 1, g', a, am, by omega, rfl, rfl, Sm_tr sG j3, Sm_rfl⟩
  · have e : p = T := by omega
    subst e
    refine Or.inl ⟨p, g, a, am, Nat.le_refl _, ?_, ?_, Sm_rfl, Sm_rfl⟩
    · rw [rd_end hP h8 (by decide), if_neg (by decide)]
    · have e : t_X12_in gm am (0 - 48) 0 7 = 0 := in_0 (Or.inl (by decide))
      rw [vr_T hP, Option.bind_some, if_pos rfl, sg_T hP, Option.bind_some, e, if_pos rfl]
