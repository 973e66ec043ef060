/-! What is typed, read: the head, and one variable. -/
theorem bo0 : boB 0 = true := by decide
theorem bo1 : boB 1 = true := by decide
theorem n10 : ¬ (1 : Int32) = 0 := by decide
def nup (f : Nat → Nat) (k x : Nat) : Nat → Nat := fun j => if j = k then x else f j
theorem nup_s (f : Nat → Nat) (k x : Nat) : nup f k x k = x := if_pos rfl
theorem nup_n (f : Nat → Nat) {k j : Nat} (x : Nat) (h : j ≠ k) : nup f k x j = f j := if_neg h
def HDZ (d k : Nat) (hd : Nat → Nat) (g : xG) (a : xA) (gm : xG) (am : xA) : Prop := k + d ≤ 5 ∧ g 7 = nI k ∧ gm 4 = nI k ∧ (∀ i, i < k → a 22 i = nI (hd i) ∧ am 6 i = nI (hd i) ∧ hd i < 6) ∧ ∀ i j, i < j → j < k → hd i ≠ hd j
theorem HDZ_fr {d k : Nat} {hd : Nat → Nat} {g g' : xG} {a a' : xA} {gm gm' : xG} {am am' : xA} (h : HDZ d k hd g a gm am) (h1 : g' 7 = g 7) (h2 : gm' 4 = gm 4) (h3 : a' 22 = a 22) (h4 : am' 6 = am 6) : HDZ d k hd g' a' gm' am' := by
  unfold HDZ at *
  rw [h1, h2, h3, h4]
  exact h
def sgT (T : Nat) (ch : Nat → Nat) (p : Nat) : Nat := if p < T then ch p else 0
section
variable {d R T : Nat} {pl tu ch : Nat → Nat} {g : xG} {a : xA} {gm : xG} {am : xA}
theorem sgT_lt (h : PZ d R T pl tu ch g a gm am) (p : Nat) : sgT T ch p < 256 := by
  unfold sgT
  split
  · exact sgn_lt (h.2.2.2.2.2.2.2.2.2.1 p (by assumption)).2.2
  · decide
theorem sg_A (h : PZ d R T pl tu ch g a gm am) {p : Nat} (hp : p ≤ T) : f_X12_signAt gm am (nI p) = some (nI (sgT T ch p)) := by
  unfold sgT
  by_cases q : p < T
  · rw [if_pos q]
    exact sg_M h q
  · have e : p = T := by omega
    rw [if_neg q, e]
    exact sg_T h
theorem rd_ju (hP : PZ d R T pl tu ch g a gm am) {p s x y n : Nat} (hp : p ≤ T) (hn : T < p + n) (h : (s = 2 ∧ x = 61 ∧ y = 4) ∨ (s = 3 ∧ x = 40 ∧ y = 4) ∨ (s = 5 ∧ x = 44 ∧ y = 4) ∨ (s = 6 ∧ x = 41 ∧ y = 7)) (h8 : g 8 = nI s) : (sgT T ch p = x ∧ p < T ∧ ∃ m, T < p + 1 + m ∧ f_X1_read_21 n g a (nI p) = f_X1_read_21 m (upd g 8 (nI y)) a (nI (p + 1))) ∨ (sgT T ch p ≠ x ∧ ∃ g', f_X1_read_21 n g a (nI p) = some (nI p, g', a) ∧ Sm [8, 9, 10, 11] [23, 25, 26, 27, 28] g a g' a) := by
  obtain ⟨n, rfl⟩ : ∃ m, n = m + 1 := pos_of (r := 0) (by omega)
  by_cases q : p < T
  · have e : sgT T ch p = ch p := if_pos q
    rw [e, rd_just hP q (h.elim Or.inl (fun h => Or.inr (h.elim Or.inl (fun h => Or.inr (h.elim Or.inl (fun h => Or.inr (Or.inl h))))))) h8]
    by_cases z : ch p = x
    · exact Or.inl ⟨z, q, n, by omega, if_pos z⟩
    · exact Or.inr ⟨z, upd g 8 (nI y), if_neg z, Sm_G Sm_rfl (by decide)⟩
  · have e : p = T := by omega
    subst e
    have e : sgT p ch p = 0 := if_neg q
    rw [e, rd_end hP h8 (by omega), if_neg (by omega)]
    exact Or.inr ⟨by omega, g, rfl, Sm_rfl⟩
end
theorem sm_hd {gm : xG} {am : xA} {v : Int32} {f : Nat → Int32} : SmM gm am (upd gm 4 v) (upA am 6 f) := SmM_of (P := [4]) (Q := [6]) (Sm_A (Sm_G Sm_rfl (by decide)) (by decide))
theorem headT {d R T : Nat} {pl tu ch : Nat → Nat} : ∀ (r p n n' k : Nat) (hd : Nat → Nat) (g : xG) (a : xA) (gm : xG) (am : xA), p + r = T → r < n → r < n' → PZ d R T pl tu ch g a gm am → g 8 = nI 0 → HDZ d k hd g a gm am → g 12 = nI 6 → g 11 = nI 0 → gm 5 = nI 0 → k ≤ p →
    (∃ (q : Nat) (g' : xG) (a' : xA) (gm' : xG) (am' : xA), q ≤ T ∧ f_X1_read_21 n g a (nI p) = some (nI q, g', a') ∧ f_X12_readsHead_7 n' gm am (nI p) = some (100 + nI q, gm', am') ∧ Sm PX QX g a g' a' ∧ SmM gm am gm' am') ∨
    (∃ (q m k' : Nat) (hd' : Nat → Nat) (g' : xG) (a' : xA) (gm' : xG) (am' : xA), q ≤ T ∧ T < q + m ∧ 2 ≤ q ∧ f_X1_read_21 n g a (nI p) = f_X1_read_21 m g' a' (nI q) ∧ f_X12_readsHead_7 n' gm am (nI p) = some (nI q, gm', am') ∧ Sm PX QX g a g' a' ∧ SmM gm am gm' am' ∧ g' 8 = nI 1 ∧ 1 ≤ k' ∧ HDZ d k' hd' g' a' gm' am' ∧ g' 12 = nI 6 ∧ g' 11 = nI 0 ∧ gm' 5 = nI 0)
  | 0, p, n, n', k, hd, g, a, gm, am, hp, hn, hn', hP, h8, hH, h12, h11, hm5, hkp => by
    obtain ⟨n, rfl⟩ := pos_of hn
    obtain ⟨n', rfl⟩ := pos_of hn'
    have e : p = T := by omega
    subst e
    refine Or.inl ⟨p, g, a, gm, am, Nat.le_refl _, ?_, ?_, Sm_rfl, SmM_rfl⟩
    · rw [rd_end hP h8 (by decide), if_neg (by decide)]
    · rw [e_X12_readsHead_7, vr_T hP, Option.bind_some, if_pos rfl, sg_T hP, Option.bind_some, if_neg (show ¬ (0 : Int32) = 58 by decide), ite_self]
  | r + 1, p, n, n', k, hd, g, a, gm, am, hp, hn, hn', hP, h8, hH, h12, h11, hm5, hkp => by
    obtain ⟨n, rfl⟩ := pos_of hn
    obtain ⟨n', rfl⟩ := pos_of hn'
    have hpT : p < T := by omega
    obtain ⟨k1, k2, k3, k4, k5⟩ := id hH
    have hc := sgn_lt (hP.2.2.2.2.2.2.2.2.2.1 p hpT).2.2
    have hd2 := hP.1
    have tk : f_X1_takes g a (nI (ch p)) = Option.bind (f_X1_takesInHead g a (nI (ch p))) (fun u2 => ck (boB u2.1) (some (u2.1, u2.2.1, u2.2.2))) := by
      unfold f_X1_takes
      rw [if_pos (by rw [h8]; rfl)]
    rw [rd_step hP hpT, tk, e_X12_readsHead_7, vr_M hP hpT, Option.bind_some, sg_M hP hpT, Option.bind_some]
    unfold f_X1_takesInHead
    rcases vaK g a gm am hc with ⟨v1, v2, v3, v4, v5⟩ | ⟨v1, v2, v3⟩
    · rw [v1, v2, if_neg (by decide), if_neg (by decide), v5]
      have mm := hd_M (K := f_X12_readsHead_7 n') (g := gm) (a := am) (p := p) (c := ch p) (x := ch p - 97) k1 hd2 hP.2.2.2.2.2.2.1 k3 (fun i hi => ⟨(k4 i hi).2.1, (k4 i hi).2.2⟩) (sg_M hP hpT) v5 v4 k 0 fu (by omega) (fu_gt (by omega))
      rcases hd_X (g := g) (a := a) (x := ch p - 97) k1 hd2 hP.2.2.2.1 k2 (fun i hi => ⟨(k4 i hi).1, (k4 i hi).2.2⟩) v4 k 0 fu (by omega) (fu_gt (by omega)) with ⟨x1, x2⟩ | ⟨x1, x2⟩
      · refine Or.inl ⟨p, g, a, gm, am, by omega, ?_, mm.1 x1, Sm_rfl, SmM_rfl⟩
        rw [show f_X1_takesInHead_38 fu g a (nI (ch p - 97)) 0 = _ from x2, Option.bind_some, ck_t bo0, Option.bind_some, if_pos rfl]
      · have m2 := mm.2 x1
        rw [show f_X1_takesInHead_38 fu g a (nI (ch p - 97)) 0 = _ from x2, show f_X12_readsHead_19 (f_X12_readsHead_7 n') fu gm am (nI p) 0 0 = _ from m2]
        by_cases q : k + d < 5
        · rw [if_pos q, if_pos q, Option.bind_some, ck_t bo1, Option.bind_some, if_neg n10]
          have sX : Sm PX QX g a (upd g 7 (nI (k + 1))) (upA a 22 (upd (a 22) k (nI (ch p - 97)))) := Sm_A (Sm_G Sm_rfl (by decide)) (by decide)
          have sM : SmM gm am (upd gm 4 (nI (k + 1))) (upA am 6 (upd (am 6) k (nI (ch p - 97)))) := sm_hd
          have hH' : HDZ d (k + 1) (nup hd k (ch p - 97)) (upd g 7 (nI (k + 1))) (upA a 22 (upd (a 22) k (nI (ch p - 97)))) (upd gm 4 (nI (k + 1))) (upA am 6 (upd (am 6) k (nI (ch p - 97)))) := by
            refine ⟨by omega, upd_s .., upd_s .., fun i hi => ?_, fun i j hij hj => ?_⟩
            · rw [upA_s, upA_s]
              by_cases z : i = k
              · rw [z, upd_s, upd_s, nup_s]
                exact ⟨rfl, rfl, v4⟩
              · rw [upd_n _ _ z, upd_n _ _ z, nup_n _ _ z]
                exact k4 i (by omega)
            · rw [nup_n _ _ (show i ≠ k by omega)]
              by_cases z : j = k
              · rw [z, nup_s]
                exact x1 i (Nat.zero_le _) (by omega)
              · rw [nup_n _ _ z]
                exact k5 i j hij (by omega)
          rcases headT r (p + 1) n n' (k + 1) (nup hd k (ch p - 97)) _ _ _ _ (by omega) (by omega) (by omega) (PZ_fr hP sX sM) ((upd_n _ _ (by decide)).trans h8) hH' ((upd_n _ _ (by decide)).trans h12) ((upd_n _ _ (by decide)).trans h11) ((upd_n _ _ (by decide)).trans hm5) (by omega) with ⟨q, g', a', gm', am', w1, w2, w3, w4, w5⟩ | ⟨q, m, k', hd', g', a', gm', am', w1, w2, w3, w4, w5, w6, w7, w8⟩
          · exact Or.inl ⟨q, g', a', gm', am', w1, w2, w3, Sm_tr sX w4, SmM_tr sM w5⟩
          · exact Or.inr ⟨q, m, k', hd', g', a', gm', am', w1, w2, w3, w4, w5, Sm_tr sX w6, SmM_tr sM w7, w8⟩
        · rw [if_neg q, if_neg q, Option.bind_some, ck_t bo0, Option.bind_some, if_pos rfl]
          exact Or.inl ⟨p, g, a, gm, am, by omega, rfl, rfl, Sm_rfl, SmM_rfl⟩
    · rw [v1, v2, if_pos rfl, if_pos rfl, k3, upd_n _ _ (by decide), k2]
      by_cases q : ch p = 58
      · rw [if_pos (show nI (ch p) = 58 by rw [q]; rfl), if_pos (show nI (ch p) = 58 by rw [q]; rfl)]
        by_cases z : k = 0
        · rw [if_pos (by rw [z]; decide), if_pos (by rw [z]; decide), Option.bind_some, ck_t bo0, Option.bind_some, if_pos rfl]
          exact Or.inl ⟨p, upd g 8 1, a, gm, am, by omega, rfl, rfl, Sm_G Sm_rfl (by decide), SmM_rfl⟩
        · rw [if_neg (nI_nle (by omega) (by omega)), if_neg (nI_nle (by omega) (by omega)), Option.bind_some, ck_t bo1, Option.bind_some, if_neg n10, nI_1]
          exact Or.inr ⟨p + 1, n, k, hd, upd g 8 1, a, gm, am, by omega, by omega, by omega, rfl, rfl, Sm_G Sm_rfl (by decide), SmM_rfl, upd_s .., by omega, HDZ_fr hH (upd_n _ _ (by decide)) rfl rfl rfl, (upd_n _ _ (by decide)).trans h12, (upd_n _ _ (by decide)).trans h11, hm5⟩
      · have q' : ¬ nI (ch p) = 58 := fun e => q ((nI_eq (b := 58) (by omega) (by decide)).mp e)
        rw [if_neg q', if_neg q', Option.bind_some, ck_t bo0, Option.bind_some, if_pos rfl, ite_self]
        exact Or.inl ⟨p, upd g 8 1, a, gm, am, by omega, rfl, rfl, Sm_G Sm_rfl (by decide), SmM_rfl⟩
