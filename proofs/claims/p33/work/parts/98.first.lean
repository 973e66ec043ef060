/-! first: CONSTANT, SEMILATTICE, SUM. -/
def FirstR (Q : Nat → Prop) (N : Nat) (val : Nat → Int64) (x : Int64) : Prop := (x = -1 ∧ ∀ v, v < N → ¬ Q v) ∨ ∃ v, v < N ∧ Q v ∧ (∀ v', v' < v → ¬ Q v') ∧ x = val v
theorem FR_un {Q : Nat → Prop} {N : Nat} {val : Nat → Int64} {x y : Int64} (h1 : FirstR Q N val x) (h2 : FirstR Q N val y) : x = y := by
  rcases h1 with ⟨e1, n1⟩ | ⟨v, v1, v2, v3, e1⟩
  · rcases h2 with ⟨e2, n2⟩ | ⟨w, w1, w2, w3, e2⟩
    · rw [e1, e2]
    · exact absurd w2 (n1 w w1)
  · rcases h2 with ⟨e2, n2⟩ | ⟨w, w1, w2, w3, e2⟩
    · exact absurd v2 (n2 v v1)
    · rcases Nat.lt_trichotomy v w with q | q | q
      · exact absurd v2 (w3 v q)
      · rw [e1, e2, q]
      · exact absurd w2 (v3 w q)
/-- from one way of numbering to another -/
theorem FR_map {Q W : Nat → Prop} {N M : Nat} {val val' : Nat → Int64} {ph : Nat → Nat} {x : Int64} (h : FirstR Q N val x) (hv : ∀ c, c < N → val c = val' (ph c)) (hM : ∀ c, c < N → ph c < M) (hm : ∀ c c', c < c' → c' < N → ph c < ph c') (hW : ∀ k, k < M → (W k ↔ ∃ c, c < N ∧ k = ph c ∧ Q c)) : FirstR W M val' x := by
  rcases h with ⟨e1, n1⟩ | ⟨v, v1, v2, v3, e1⟩
  · refine Or.inl ⟨e1, fun k hk q => ?_⟩
    obtain ⟨c, c1, _, c3⟩ := (hW k hk).mp q
    exact n1 c c1 c3
  · refine Or.inr ⟨ph v, hM v v1, (hW _ (hM v v1)).mpr ⟨v, v1, rfl, v2⟩, fun k hk q => ?_, by rw [e1, hv v v1]⟩
    obtain ⟨c, c1, c2, c3⟩ := (hW k (by have := hM v v1; omega)).mp q
    rcases Nat.lt_trichotomy c v with q1 | q1 | q1
    · exact v3 c q1 c3
    · rw [c2, q1] at hk
      omega
    · have := hm v c q1 c1
      omega
theorem fc23 {d v : Nat} {g : xG} (h0 : g 0 = nI d) (hd : d = 2 ∨ d = 3) {K : xG → xA → Int32 → Option (Int64 × xG × xA)} : ∀ (r p n : Nat) (a : xA), p + r = d → r < n → (∀ q, q < p → a 53 q = nI v) →
    ∃ f, f_X3_firstConstant_23 K n g a (nI v) (nI p) = Option.bind (f_X3_triedKeepsAll g (upA a 53 f)) (fun u5 => (if u5.1 = 0 then K u5.2.1 u5.2.2 (nI (v + 1)) else Option.bind (f_X5_wholeCode 6 u5.2.1 u5.2.2) (fun u8 => some (u8, u5.2.1, u5.2.2)))) ∧ ∀ q, q < d → f q = nI v
  | 0, p, n, a, hp, hn, h => by
    obtain ⟨n, rfl⟩ := pos_of hn
    refine ⟨a 53, ?_, fun q hq => h q (by omega)⟩
    rw [e_X3_firstConstant_23, h0, if_pos (nI_le (by omega) (by omega)), upA_id, show nI v + 1 = nI (v + 1) from nI_1 v]
  | r + 1, p, n, a, hp, hn, h => by
    obtain ⟨n, rfl⟩ := pos_of hn
    obtain ⟨f, e1, e2⟩ := fc23 (v := v) h0 hd (K := K) r (p + 1) n (upA a 53 (upd (a 53) p (nI v))) (by omega) (by omega) (fun q hq => by
      rw [upA_s]
      by_cases he : q = p
      · rw [he, upd_s]
      · rw [upd_n _ _ he]; exact h q (by omega))
    refine ⟨f, ?_, e2⟩
    rw [upA_2] at e1
    rw [e_X3_firstConstant_23, h0, if_neg (nI_ge (by omega) (by omega)), show nI p + 1 = nI (p + 1) from nI_1 p]
    unfold t_X5_setAnswer
    rw [put_in (by omega) (by decide)]
    exact e1
theorem fc10 {d R : Nat} {pl tu : Nat → Nat} : ∀ (r v n : Nat) (g : xG) (a : xA), v + r = d → r < n → Bas d g a → RX d R pl tu g a → g 21 = nI 1 → (∀ v', v' < v → ¬ Kp d R pl tu 1 (fun _ => v')) →
    ∃ x g' a', f_X3_firstConstant_10 n g a (nI v) = some (x, g', a') ∧ Sm [2, 3, 21] [8, 9, 53] g a g' a' ∧ FirstR (fun v => Kp d R pl tu 1 (fun _ => v)) d (fun v => lN (nm d (fun _ => v) (d ^ 1))) x
  | 0, v, n, g, a, hv, hn, hB, hR, h21, hno => by
    obtain ⟨n, rfl⟩ := pos_of hn
    have hd := hB.1
    refine ⟨-1, g, a, ?_, Sm_rfl, Or.inl ⟨rfl, fun v' h => hno v' (by omega)⟩⟩
    rw [e_X3_firstConstant_10, hB.2.1, if_pos (nI_le (by omega) (by omega))]
  | r + 1, v, n, g, a, hv, hn, hB, hR, h21, hno => by
    obtain ⟨n, rfl⟩ := pos_of hn
    have hd := hB.1
    obtain ⟨f, e1, e2⟩ := fc23 (v := v) (a := a) hB.2.1 hd (K := f_X3_firstConstant_10 n) d 0 fu (by omega) (fu_gt (by omega)) (fun q hq => by omega)
    have s1 : Sm [2, 3, 21] [8, 9, 53] g a g (upA a 53 f) := Sm_A Sm_rfl (by decide)
    have hO : Opr d 6 1 (fun _ => v) g (upA a 53 f) := ⟨by decide, h21, by decide, by decide, fun p hp => ⟨by
      rw [show 47 + 6 = 53 from rfl, upA_s]
      exact e2 p (by rw [Nat.pow_one] at hp; exact hp), by show v < d; omega⟩⟩
    obtain ⟨b, g2, a2, e4, e5, e6⟩ := tka (Bas_sm hB s1) (RX_sm hR s1) hO
    have s2 : Sm [2, 3, 21] [8, 9, 53] g a g2 a2 := Sm_tr s1 (Sm_mo e5 (by decide) (by decide))
    have ee : f_X3_firstConstant_10 (n + 1) g a (nI v) = (if (if b = true then (1 : Int32) else 0) = 0 then f_X3_firstConstant_10 n g2 a2 (nI (v + 1)) else Option.bind (f_X5_wholeCode 6 g2 a2) (fun u8 => some (u8, g2, a2))) := by
      rw [e_X3_firstConstant_10, hB.2.1, if_neg (nI_ge (by omega) (by omega))]
      refine Eq.trans e1 ?_
      rw [e4, Option.bind_some]
    cases hb : b with
    | false =>
      obtain ⟨x, g3, a3, k1, k2, k3⟩ := fc10 r (v + 1) n g2 a2 (by omega) (by omega) (Bas_sm hB s2) (RX_sm hR s2) ((e5.1 21 (by decide)).trans h21) (fun v' h => by
        by_cases he : v' = v
        · rw [he]
          intro q
          rw [e6.mpr q] at hb
          cases hb
        · exact hno v' (by omega))
      refine ⟨x, g3, a3, ?_, Sm_tr s2 k2, k3⟩
      rw [ee, hb, if_pos (by decide)]
      exact k1
    | true =>
      refine ⟨_, g2, a2, ?_, s2, Or.inr ⟨v, by omega, e6.mp hb, hno, rfl⟩⟩
      rw [ee, hb, if_neg (by decide), wcX (Bas_sm hB s2) (Opr_sm hO e5), Option.bind_some]
theorem constX {d R : Nat} {pl tu : Nat → Nat} {g : xG} {a : xA} (hB : Bas d g a) (hR : RX d R pl tu g a) : ∃ x g' a', f_X3_firstConstant g a = some (x, g', a') ∧ Sm [2, 3, 21] [8, 9, 53] g a g' a' ∧ FirstR (fun v => Kp d R pl tu 1 (fun _ => v)) d (fun v => lN (nm d (fun _ => v) (d ^ 1))) x := by
  have hd := hB.1
  obtain ⟨f1, e1, _⟩ := beginO (k := 6) (w := 1) (by decide) (by decide) hB
  have s1 : Sm [2, 3, 21] [8, 9, 53] g a (upd g 21 (nI 1)) (upA a 53 f1) := Sm_A (Sm_G Sm_rfl (by decide)) (by decide)
  obtain ⟨x, g2, a2, k1, k2, k3⟩ := fc10 d 0 fu (upd g 21 (nI 1)) (upA a 53 f1) (by omega) (fu_gt (by omega)) (Bas_sm hB s1) (RX_sm hR s1) (upd_s ..) (fun v' h => by omega)
  refine ⟨x, g2, a2, ?_, Sm_tr s1 k2, k3⟩
  unfold f_X3_firstConstant
  rw [show (1 : Int32) = nI 1 from rfl, e1, Option.bind_some]
  exact k1
theorem mc12 {d v : Nat} {g : xG} (h0 : g 0 = nI d) (hd : d = 2 ∨ d = 3) {K : xA → Int32 → Option (Int64 × xA)} : ∀ (r p n : Nat) (a : xA), p + r = d → r < n → (∀ q, q < p → a 4 (162 + q) = nI v) →
    ∃ f, f_X12_firstConstant_12 g K n a (nI v) (nI p) = Option.bind (f_X12_keepsAll g (upA a 4 f) 6 1) (fun u3 => (if u3.1 = 0 then K u3.2 (nI (v + 1)) else Option.bind (f_X12_codeOf g u3.2 6 1) (fun u6 => some (u6, u3.2)))) ∧ (∀ i, i < 162 → f i = a 4 i) ∧ ∀ q, q < d → f (162 + q) = nI v
  | 0, p, n, a, hp, hn, h => by
    obtain ⟨n, rfl⟩ := pos_of hn
    refine ⟨a 4, ?_, fun _ _ => rfl, fun q hq => h q (by omega)⟩
    rw [e_X12_firstConstant_12, h0, if_pos (nI_le (by omega) (by omega)), upA_id, show nI v + 1 = nI (v + 1) from nI_1 v]
  | r + 1, p, n, a, hp, hn, h => by
    obtain ⟨n, rfl⟩ := pos_of hn
    obtain ⟨f, e1, e2, e3⟩ := mc12 (v := v) h0 hd (K := K) r (p + 1) n (upA a 4 (upd (a 4) (162 + p) (nI v))) (by omega) (by omega) (fun q hq => by
      rw [upA_s]
      by_cases he : q = p
      · rw [he, upd_s]
      · rw [upd_n _ _ (by omega)]; exact h q (by omega))
    rw [upA_2] at e1
    refine ⟨f, ?_, fun i hi => ?_, e3⟩
    · rw [e_X12_firstConstant_12, h0, if_neg (nI_ge (by omega) (by omega)), show ((162 : Int32) + nI p) = nI (162 + p) from nI_add 162 p, ck_t (inB_t (by omega) (by decide)), nI_clamp (by omega), show nI p + 1 = nI (p + 1) from nI_1 p]
      exact e1
    · rw [e2 i hi, upA_s, upd_n _ _ (by omega)]
theorem mc2 {d R : Nat} {pl tu : Nat → Nat} {g : xG} (hd : d = 2 ∨ d = 3) (h0 : g 0 = nI d) : ∀ (r v n : Nat) (a : xA), v + r = d → r < n → RM d R pl tu g a → (∀ v', v' < v → ¬ Kp d R pl tu 1 (fun _ => v')) →
    ∃ x a', f_X12_firstConstant_2 g n a (nI v) = some (x, a') ∧ SmM g a g a' ∧ FirstR (fun v => Kp d R pl tu 1 (fun _ => v)) d (fun v => lN (nm d (fun _ => v) (d ^ 1))) x
  | 0, v, n, a, hv, hn, hR, hno => by
    obtain ⟨n, rfl⟩ := pos_of hn
    refine ⟨-1, a, ?_, SmM_rfl, Or.inl ⟨rfl, fun v' h => hno v' (by omega)⟩⟩
    rw [e_X12_firstConstant_2, h0, if_pos (nI_le (by omega) (by omega))]
  | r + 1, v, n, a, hv, hn, hR, hno => by
    obtain ⟨n, rfl⟩ := pos_of hn
    obtain ⟨f, e1, e2, e3⟩ := mc12 (v := v) (a := a) h0 hd (K := f_X12_firstConstant_2 g n) d 0 fu (by omega) (fu_gt (by omega)) (fun q hq => by omega)
    have s1 : SmM g a g (upA a 4 f) := SmM_4 e2
    have hO : OpM d 6 1 (fun _ => v) (upA a 4 f) := ⟨by decide, by decide, by decide, fun p hp => ⟨by
      rw [upA_s]
      exact e3 p (by rw [Nat.pow_one] at hp; exact hp), by show v < d; omega⟩⟩
    obtain ⟨b, a2, e4, e5, e6⟩ := kaM hd h0 (RM_sm hR s1) hO
    have s2 : SmM g a g a2 := SmM_tr s1 (SmM_of e5)
    have ee : f_X12_firstConstant_2 g (n + 1) a (nI v) = (if (if b = true then (1 : Int32) else 0) = 0 then f_X12_firstConstant_2 g n a2 (nI (v + 1)) else Option.bind (f_X12_codeOf g a2 6 1) (fun u8 => some (u8, a2))) := by
      rw [e_X12_firstConstant_2, h0, if_neg (nI_ge (by omega) (by omega))]
      refine Eq.trans e1 ?_
      rw [show f_X12_keepsAll g (upA a 4 f) 6 1 = _ from e4, Option.bind_some]
    cases hb : b with
    | false =>
      obtain ⟨x, a3, k1, k2, k3⟩ := mc2 hd h0 r (v + 1) n a2 (by omega) (by omega) (RM_sm hR s2) (fun v' h => by
        by_cases he : v' = v
        · rw [he]
          intro q
          rw [e6.mpr q] at hb
          cases hb
        · exact hno v' (by omega))
      refine ⟨x, a3, ?_, SmM_tr s2 k2, k3⟩
      rw [ee, hb, if_pos (by decide)]
      exact k1
    | true =>
      refine ⟨_, a2, ?_, s2, Or.inr ⟨v, by omega, e6.mp hb, hno, rfl⟩⟩
      rw [ee, hb, if_neg (by decide), show f_X12_codeOf g a2 6 1 = _ from cmM (op := 6) (w := 1) hd h0 (OpM_sm hO e5), Option.bind_some]
theorem constM {d R : Nat} {pl tu : Nat → Nat} {g : xG} {a : xA} (hd : d = 2 ∨ d = 3) (h0 : g 0 = nI d) (hR : RM d R pl tu g a) : ∃ x a', f_X12_firstConstant g a = some (x, a') ∧ SmM g a g a' ∧ FirstR (fun v => Kp d R pl tu 1 (fun _ => v)) d (fun v => lN (nm d (fun _ => v) (d ^ 1))) x :=
  mc2 hd h0 d 0 fu a (by omega) (fu_gt (by omega)) hR (fun v' h => by omega)
/-! SUM -/
def TA (d q : Nat) : Nat := mk d 3 (dg d q 0) (dg d q 1) (dg d q 2)
theorem TA_lt {d q : Nat} (hd : d = 2 ∨ d = 3) : TA d q < d := (mk_ok hd (by decide) (dg_lt (by omega) _ _) (dg_lt (by omega) _ _) (dg_lt (by omega) _ _)).2.1
theorem sumX {d R : Nat} {pl tu : Nat → Nat} {g : xG} {a : xA} (hB : Bas d g a) (hR : RX d R pl tu g a) : ∃ x g' a', f_X3_firstSum g a = some (x, g', a') ∧ Sm [2, 3, 21] [8, 9, 53] g a g' a' ∧ FirstR (fun _ => Kp d R pl tu 3 (TA d)) 1 (fun _ => lN (nm d (TA d) (d ^ 3))) x := by
  have hd := hB.1
  obtain ⟨f, e1, e2⟩ := becomeO (k := 6) (what := 3) (by decide) (by decide) hB
  have hw : wmk 3 = 3 := rfl
  rw [hw] at e1 e2
  have s1 : Sm [2, 3, 21] [8, 9, 53] g a (upd g 21 (nI 3)) (upA a 53 f) := Sm_A (Sm_G Sm_rfl (by decide)) (by decide)
  have hO : Opr d 6 3 (TA d) (upd g 21 (nI 3)) (upA a 53 f) := ⟨by decide, upd_s .., by decide, by decide, fun p hp => ⟨by
    rw [show 47 + 6 = 53 from rfl, upA_s]
    exact e2 p hp, TA_lt hd⟩⟩
  obtain ⟨b, g2, a2, e4, e5, e6⟩ := tka (Bas_sm hB s1) (RX_sm hR s1) hO
  have s2 : Sm [2, 3, 21] [8, 9, 53] g a g2 a2 := Sm_tr s1 (Sm_mo e5 (by decide) (by decide))
  have ee : f_X3_firstSum g a = (if (if b = true then (1 : Int32) else 0) = 0 then some ((-1), g2, a2) else Option.bind (f_X5_wholeCode 6 g2 a2) (fun u6 => some (u6, g2, a2))) := by
    unfold f_X3_firstSum
    rw [show f_X5_become 6 g a 3 = _ from e1, Option.bind_some]
    rw [show f_X3_triedKeepsAll (upd g (15 + 6) (nI 3)) (upA a (47 + 6) f) = _ from e4, Option.bind_some]
  cases hb : b with
  | false =>
    refine ⟨-1, g2, a2, ?_, s2, Or.inl ⟨rfl, fun v _ q => by rw [e6.mpr q] at hb; cases hb⟩⟩
    rw [ee, hb, if_pos (by decide)]
  | true =>
    refine ⟨_, g2, a2, ?_, s2, Or.inr ⟨0, by decide, e6.mp hb, fun v h => by omega, rfl⟩⟩
    rw [ee, hb, if_neg (by decide), wcX (Bas_sm hB s2) (Opr_sm hO e5), Option.bind_some]
theorem sumM {d R : Nat} {pl tu : Nat → Nat} {g : xG} {a : xA} (hd : d = 2 ∨ d = 3) (h0 : g 0 = nI d) (hR : RM d R pl tu g a) : ∃ x a', Option.bind (f_X12_lays g a 6 3) (fun u5 => Option.bind (f_X12_keepsAll g u5 6 3) (fun u7 => (if u7.1 = 0 then some ((-1 : Int64), g, u7.2) else Option.bind (f_X12_codeOf g u7.2 6 3) (fun u10 => some (u10, g, u7.2))))) = some (x, g, a') ∧ SmM g a g a' ∧ FirstR (fun _ => Kp d R pl tu 3 (TA d)) 1 (fun _ => lN (nm d (TA d) (d ^ 3))) x := by
  obtain ⟨f, e1, e2, e3⟩ := laysM (op := 6) (what := 3) (by decide) hd (by decide) h0 a
  have h27 := pw3 hd (w := 3) (by decide)
  have s1 : SmM g a g (upA a 4 f) := SmM_4 (fun i hi => e2 i (Or.inl hi))
  have hO : OpM d 6 3 (TA d) (upA a 4 f) := ⟨by decide, by decide, by decide, fun p hp => ⟨by
    rw [upA_s]
    exact e3 p (by omega), TA_lt hd⟩⟩
  obtain ⟨b, a2, e4, e5, e6⟩ := kaM hd h0 (RM_sm hR s1) hO
  have s2 : SmM g a g a2 := SmM_tr s1 (SmM_of e5)
  rw [show f_X12_lays g a 6 3 = _ from e1, Option.bind_some]
  rw [show f_X12_keepsAll g (upA a 4 f) 6 3 = _ from e4, Option.bind_some]
  cases hb : b with
  | false =>
    exact ⟨-1, a2, if_pos (show (if false = true then (1 : Int32) else 0) = 0 by decide), s2, Or.inl ⟨rfl, fun v _ q => by rw [e6.mpr q] at hb; cases hb⟩⟩
  | true =>
    refine ⟨_, a2, ?_, s2, Or.inr ⟨0, by decide, e6.mp hb, fun v h => by omega, rfl⟩⟩
    refine (if_neg (show ¬ (if true = true then (1 : Int32) else 0) = 0 by decide)).trans ?_
    show Option.bind (f_X12_codeOf g a2 6 3) _ = _
    rw [show f_X12_codeOf g a2 6 3 = _ from cmM (op := 6) (w := 3) hd h0 (OpM_sm hO e5), Option.bind_some]
