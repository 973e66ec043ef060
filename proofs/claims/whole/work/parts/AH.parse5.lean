/-! What is typed, read: one atom, whole. -/
def CVZ (C : Nat) (cv : Nat → Nat → Nat) (x : Nat → Nat) : Nat → Nat → Nat := fun c => if c = C then x else cv c
def relM (r : Nat) : Int32 := if r = 8 then -1 else nI r
theorem atZ {d R T C p n : Nat} {pl tu ch cr : Nat → Nat} {cv : Nat → Nat → Nat} {g : xG} {a : xA} {gm : xG} {am : xA} (hP : PZ d R T pl tu ch g a gm am) (hC : C ≤ 14) (hm5 : gm 5 = nI C) (hp : p ≤ T) (hn : T < p + n) (h8 : g 8 = nI 1) (hI : IZ d C pl tu cr cv g a) :
    (∃ (q : Nat) (g' : xG) (a' am' : xA), q ≤ T ∧ f_X1_read_21 n g a (nI p) = some (nI q, g', a') ∧ f_X12_readsAtom gm am (nI p) = some (100 + nI q, am') ∧ Sm P1 Q1 g a g' a' ∧ Sm [] [7, 8] gm am gm am') ∨
    (∃ (q m r : Nat) (x : Nat → Nat) (g' : xG) (a' am' : xA), p + 3 ≤ q ∧ q ≤ T ∧ T < q + m ∧ (r < R ∨ r = 8) ∧ f_X1_read_21 n g a (nI p) = f_X1_read_21 m g' a' (nI q) ∧ f_X12_readsAtom gm am (nI p) = some (nI q, am') ∧ Sm P1 Q1 g a g' a' ∧ Sm [] [7, 8] gm am gm am' ∧ g' 8 = nI 7 ∧ IZ d (C + 1) pl tu (nup cr C r) (CVZ C cv x) g' a' ∧ am' 7 = upd (am 7) C (relM r) ∧ (∀ i, i < 3 * C → am' 8 i = am 8 i) ∧ ∀ j, j < plx pl r → am' 8 (3 * C + j) = nI (x j)) := by
  obtain ⟨n, rfl⟩ : ∃ m, n = m + 1 := pos_of (r := 0) (by omega)
  have hR := hP.2.1
  have hT := hP.2.2.1
  unfold f_X12_readsAtom
  by_cases hpT : p < T
  · have hc := sgn_lt (hP.2.2.2.2.2.2.2.2.2.1 p hpT).2.2
    have tk : f_X1_takes g a (nI (ch p)) = Option.bind (f_X1_takesAtBeginningOfAtom g a (nI (ch p))) (fun u6 => ck (boB u6.1) (some (u6.1, u6.2.1, u6.2.2))) := by
      unfold f_X1_takes
      rw [h8, if_neg (by decide), if_pos (show nI 1 = 1 from rfl)]
    rw [rd_step hP hpT, tk, vr_M hP hpT, sg_M hP hpT, Option.bind_some]
    unfold f_X1_takesAtBeginningOfAtom
    rcases vaK (upd g 10 0) a gm am hc with ⟨v1, v2, v3, v4, v5⟩ | ⟨v1, v2, v3⟩
    · rw [v1, v2, if_neg n10, if_neg n10, v5, Option.bind_some, ck_t bo1, Option.bind_some, if_neg n10, show nI p + 1 = nI (p + 1) from nI_1 p, show putF 3 (a 23) 0 (nI (ch p - 97)) = upd (a 23) 0 (nI (ch p - 97)) from put_in (i := 0) (by decide) (by decide)]
      obtain ⟨gA, hgA⟩ : ∃ gA, gA = upd (upd (upd (upd g 10 0) 9 8) 10 1) 8 2 := ⟨_, rfl⟩
      obtain ⟨aA, haA⟩ : ∃ aA, aA = upA a 23 (upd (a 23) 0 (nI (ch p - 97))) := ⟨_, rfl⟩
      have sA : Sm P1 Q1 g a gA aA := by
        rw [hgA, haA]
        exact Sm_A (Sm_G (Sm_G (Sm_G (Sm_G Sm_rfl (by decide)) (by decide)) (by decide)) (by decide)) (by decide)
      have eA : f_X1_read_21 n (1, upd (upd (upd (upd g 10 0) 9 8) 10 1) 8 2, upA a 23 (upd (a 23) 0 (nI (ch p - 97)))).2.1 (1, upd (upd (upd (upd g 10 0) 9 8) 10 1) 8 2, upA a 23 (upd (a 23) 0 (nI (ch p - 97)))).2.2 (nI (p + 1)) = f_X1_read_21 n gA aA (nI (p + 1)) := by rw [hgA, haA]
      have hPA := PZ_fr hP (SmPA sA) SmM_rfl
      have g8 : gA 8 = nI 2 := by rw [hgA]; rfl
      have g9 : gA 9 = nI 8 := by rw [hgA]; rfl
      have g10 : gA 10 = nI 1 := by rw [hgA]; rfl
      have hIA : IZ d C pl tu cr cv gA aA := by rw [hgA, haA]; exact IZ_fr hI rfl rfl rfl rfl rfl rfl rfl
      have hxA : ∀ j, j < 1 → aA 23 j = nI ((fun _ => ch p - 97) j) ∧ (fun _ => ch p - 97) j < 6 := fun j hj => by
        have e : j = 0 := by omega
        rw [e, haA]
        exact ⟨rfl, v4⟩
      refine (show _ = f_X1_read_21 n gA aA (nI (p + 1)) from eA) ▸ ?_
      rw [sg_A hP (p := p + 1) (by omega), Option.bind_some]
      rcases rd_ju hPA (p := p + 1) (n := n) (x := 61) (y := 4) (by omega) (by omega) (Or.inl ⟨rfl, rfl, rfl⟩) g8 with ⟨j1, j2, m', j3, j4⟩ | ⟨j1, g', j2, j3⟩
      · rw [j1, if_pos (show nI 61 = 61 from rfl), j4]
        have s2 : Sm P1 Q1 g a (upd gA 8 (nI 4)) aA := Sm_tr sA (Sm_G Sm_rfl (by decide))
        have hP2 := PZ_fr hP (SmPA s2) SmM_rfl
        rw [show nI p + 2 = nI (p + 2) from nI_add p 2]
        rcases rd_var (r := 8) (i := 1) hP2 (q := p + 1 + 1) (n := m') (by omega) (by omega) rfl g9 g10 (Or.inr rfl) (show 1 < 2 by decide) (by omega) (IZ_fr hIA rfl rfl rfl rfl rfl rfl rfl) hxA with ⟨w1, w2⟩ | ⟨hqT, y, m, g1, a1, y6, hm, w1, w2, w3, w4, w5, w6, w7, w8⟩
        · rw [show p + 2 = p + 1 + 1 from rfl, w1, w2, Option.bind_some, if_pos rfl]
          refine Or.inl ⟨p + 1 + 1, _, _, am, by omega, rfl, ?_, s2, Sm_rfl⟩
          rw [show p + 1 + 1 = 2 + p by omega, ← nI_add]
          sorry
        · rw [show p + 2 = p + 1 + 1 from rfl, w1, w4, Option.bind_some, if_neg n10, hm5, ck_t (inB_t (by omega) (by decide)), show f_X12_signAt gm (upA am 7 (upd (am 7) (nI C).toNatClampNeg (-1))) (nI p) = some (nI (ch p)) from sg_M hP hpT, Option.bind_some]
          sorry
      · rw [if_neg (show ¬ nI (sgT T ch (p + 1)) = 61 from fun e => j1 ((nI_eq (b := 61) (by have := sgT_lt hP (p + 1); omega) (by decide)).mp e)), j2]
        refine Or.inl ⟨p + 1, g', aA, am, by omega, rfl, ?_, Sm_tr sA j3, Sm_rfl⟩
        sorry
    · sorry
  · have e : p = T := by omega
    subst e
    refine Or.inl ⟨p, g, a, am, Nat.le_refl _, ?_, ?_, Sm_rfl, Sm_rfl⟩
    · rw [rd_end hP h8 (by decide), if_neg (by decide)]
    · have e : t_X12_in gm am (0 - 48) 0 7 = 0 := in_0 (Or.inl (by decide))
      rw [vr_T hP, Option.bind_some, if_pos rfl, sg_T hP, Option.bind_some, e, if_pos rfl]
