/-! first: SEMILATTICE. -/
def TS (d c q : Nat) : Nat := if dg d q 0 = dg d q 1 then dg d q 0 else dg d c (dg d q 0 + dg d q 1 - 1)
theorem TS_lt {d c q : Nat} (hd : 0 < d) : TS d c q < d := by
  unfold TS
  split
  · exact dg_lt hd _ _
  · exact dg_lt hd _ _
theorem Opr_cong {d k w : Nat} {T T' : Nat → Nat} {g : xG} {a : xA} (h : Opr d k w T g a) (e : ∀ p, p < d ^ w → T p = T' p) : Opr d k w T' g a :=
  ⟨h.1, h.2.1, h.2.2.1, h.2.2.2.1, fun p hp => by rw [← e p hp]; exact h.2.2.2.2 p hp⟩
theorem setA {d w p v : Nat} {T : Nat → Nat} {g : xG} {a : xA} (hd : d = 2 ∨ d = 3) (hO : Opr d 6 w T g a) (hp : p < d ^ w) (hv : v < d) : t_X5_setAnswer 6 g a (nI p) (nI v) = upA a 53 (upd (a 53) p (nI v)) ∧ Opr d 6 w (fun q => if q = p then v else T q) g (upA a 53 (upd (a 53) p (nI v))) := by
  have h27 := pw3 hd hO.2.2.2.1
  refine ⟨?_, hO.1, hO.2.1, hO.2.2.1, hO.2.2.2.1, fun q hq => ?_⟩
  · unfold t_X5_setAnswer
    rw [put_in (by omega) (by decide)]
  · rw [show 47 + 6 = 53 from rfl, upA_s]
    dsimp only
    by_cases he : q = p
    · rw [if_pos he, he, upd_s]
      exact ⟨rfl, hv⟩
    · rw [if_neg he, upd_n _ _ he]
      exact hO.2.2.2.2 q hq
theorem ts25 {d c x y n : Nat} {T : Nat → Nat} {g : xG} {a : xA} {K : xG → xA → Int32 → Int32 → Option (xG × xA)} (hB : Bas d g a) (hO : Opr d 6 2 T g a) (hc : c < 27) (hxy : x < y) (hy : y < d) :
    ∃ a', f_X3_trySymmetric_25 K (n + 1) g a (nI c) (nI x) (nI y) = f_X3_trySymmetric_25 K n g a' (nI c) (nI x) (nI (y + 1)) ∧ Sm [] [53] g a g a' ∧ Opr d 6 2 (fun q => if q = pt d 2 y x 0 then dg d c (x + y - 1) else if q = pt d 2 x y 0 then dg d c (x + y - 1) else T q) g a' := by
  have hd := hB.1
  have hd0 : 0 < d := by omega
  have hv := dg_lt hd0 c (x + y - 1)
  have p1 := pt_lt (w := 2) (x := x) (y := y) (z := 0) hd (by decide) (by decide) (by omega) hy hd0
  have p2 := pt_lt (w := 2) (x := y) (y := x) (z := 0) hd (by decide) (by decide) hy (by omega) hd0
  have es : nI x + nI y - 1 = nI (x + y - 1) := by
    rw [nI_add]
    exact pk_sub (b := 1) (by omega)
  have ev : t_X4_digit g a (nI c) (nI x + nI y - 1) = nI (dg d c (x + y - 1)) := by rw [es, digit_B hB hc (by omega)]
  have e1 : t_X5_pointOf 6 g a (nI x) (nI y) 0 = nI (pt d 2 x y 0) := ptX (z := 0) hB hO
  obtain ⟨s1, o1⟩ := setA hd hO p1 hv
  have hB1 : Bas d g (upA a 53 (upd (a 53) (pt d 2 x y 0) (nI (dg d c (x + y - 1))))) := Bas_fr hB rfl (upA_n _ _ (by decide)) (upA_n _ _ (by decide))
  have e2 : t_X5_pointOf 6 g (upA a 53 (upd (a 53) (pt d 2 x y 0) (nI (dg d c (x + y - 1))))) (nI y) (nI x) 0 = nI (pt d 2 y x 0) := ptX (z := 0) hB1 o1
  obtain ⟨s2, o2⟩ := setA hd o1 p2 hv
  refine ⟨_, ?_, ?_, o2⟩
  · rw [e_X3_trySymmetric_25, hB.2.1, if_neg (nI_ge hy (by omega)), ev, e1, s1, e2, s2, show nI y + 1 = nI (y + 1) from nI_1 y]
  · exact Sm_A (Sm_A Sm_rfl (by decide)) (by decide)
theorem ts_2 : ∀ c, c < 27 → ∀ q, q < 4 → (if q = pt 2 2 1 0 0 then dg 2 c (0 + 1 - 1) else if q = pt 2 2 0 1 0 then dg 2 c (0 + 1 - 1) else dg 2 q 0) = TS 2 c q := by decide +kernel
theorem ts_3 : ∀ c, c < 27 → ∀ q, q < 9 → (if q = pt 3 2 2 1 0 then dg 3 c (1 + 2 - 1) else if q = pt 3 2 1 2 0 then dg 3 c (1 + 2 - 1) else if q = pt 3 2 2 0 0 then dg 3 c (0 + 2 - 1) else if q = pt 3 2 0 2 0 then dg 3 c (0 + 2 - 1) else if q = pt 3 2 1 0 0 then dg 3 c (0 + 1 - 1) else if q = pt 3 2 0 1 0 then dg 3 c (0 + 1 - 1) else dg 3 q 0) = TS 3 c q := by decide +kernel
theorem ts25o {d c x : Nat} {n : Nat} {g : xG} {a : xA} {K : xG → xA → Int32 → Int32 → Option (xG × xA)} (h0 : g 0 = nI d) (hd : d < 100) : f_X3_trySymmetric_25 K (n + 1) g a (nI c) (nI x) (nI d) = K g a (nI c) (nI (x + 1)) := by
  rw [e_X3_trySymmetric_25, h0, if_pos (nI_le (Nat.le_refl _) (by omega)), show nI x + 1 = nI (x + 1) from nI_1 x]
theorem ts10o {d c : Nat} {n : Nat} {g : xG} {a : xA} (h0 : g 0 = nI d) (hd : d < 100) : f_X3_trySymmetric_10 (n + 1) g a (nI c) (nI d) = some (g, a) := by
  rw [e_X3_trySymmetric_10, h0, if_pos (nI_le (Nat.le_refl _) (by omega))]
theorem ts10s {d c x : Nat} {n : Nat} {g : xG} {a : xA} (h0 : g 0 = nI d) (hd : d < 100) (hx : x < d) : f_X3_trySymmetric_10 (n + 1) g a (nI c) (nI x) = f_X3_trySymmetric_25 (f_X3_trySymmetric_10 n) fu g a (nI c) (nI x) (nI (x + 1)) := by
  rw [e_X3_trySymmetric_10, h0, if_neg (nI_ge hx (by omega)), show nI x + 1 = nI (x + 1) from nI_1 x]
theorem fu5 : ∃ n, fu = n + 1 + 1 + 1 + 1 + 1 := ⟨999995, rfl⟩
theorem symX {d c : Nat} {g : xG} {a : xA} (hB : Bas d g a) (hc : c < 27) : ∃ g' a', f_X3_trySymmetric g a (nI c) = some (g', a') ∧ Sm [21] [53] g a g' a' ∧ Opr d 6 2 (TS d c) g' a' := by
  have hd := hB.1
  obtain ⟨f, e1, e2⟩ := beginO (k := 6) (w := 2) (by decide) (by decide) hB
  have s1 : Sm [21] [53] g a (upd g 21 (nI 2)) (upA a 53 f) := Sm_A (Sm_G Sm_rfl (by decide)) (by decide)
  have hB1 := Bas_sm hB s1
  have hO : Opr d 6 2 (fun q => dg d q 0) (upd g 21 (nI 2)) (upA a 53 f) := ⟨by decide, upd_s .., by decide, by decide, fun p hp => ⟨by
    rw [show 47 + 6 = 53 from rfl, upA_s]
    exact e2 p hp, dg_lt (by omega) _ _⟩⟩
  obtain ⟨n, hn⟩ := fu5
  have main : ∃ a', f_X3_trySymmetric_10 fu (upd g 21 (nI 2)) (upA a 53 f) (nI c) (nI 0) = some (upd g 21 (nI 2), a') ∧ Sm [] [53] (upd g 21 (nI 2)) (upA a 53 f) (upd g 21 (nI 2)) a' ∧ Opr d 6 2 (TS d c) (upd g 21 (nI 2)) a' := by
    rcases hd with hd | hd
    · subst hd
      obtain ⟨a1, k1, k2, k3⟩ := ts25 (x := 0) (y := 1) (n := n + 1 + 1 + 1 + 1) (K := f_X3_trySymmetric_10 (n + 1 + 1 + 1 + 1)) hB1 hO hc (by decide) (by decide)
      have hB2 := Bas_sm hB1 k2
      refine ⟨a1, ?_, k2, Opr_cong k3 (fun p hp => ts_2 c hc p hp)⟩
      rw [hn, ts10s hB1.2.1 (by decide) (by decide), hn, k1, ts25o hB2.2.1 (by decide), ts10s hB2.2.1 (by decide) (by decide), hn, ts25o hB2.2.1 (by decide), ts10o hB2.2.1 (by decide)]
    · subst hd
      obtain ⟨a1, k1, k2, k3⟩ := ts25 (x := 0) (y := 1) (n := n + 1 + 1 + 1 + 1) (K := f_X3_trySymmetric_10 (n + 1 + 1 + 1 + 1)) hB1 hO hc (by decide) (by decide)
      have hB2 := Bas_sm hB1 k2
      obtain ⟨a2, k4, k5, k6⟩ := ts25 (x := 0) (y := 2) (n := n + 1 + 1 + 1) (K := f_X3_trySymmetric_10 (n + 1 + 1 + 1 + 1)) hB2 k3 hc (by decide) (by decide)
      have hB3 := Bas_sm hB2 k5
      obtain ⟨a3, k7, k8, k9⟩ := ts25 (x := 1) (y := 2) (n := n + 1 + 1 + 1 + 1) (K := f_X3_trySymmetric_10 (n + 1 + 1 + 1)) hB3 k6 hc (by decide) (by decide)
      have hB4 := Bas_sm hB3 k8
      refine ⟨a3, ?_, Sm_tr (Sm_tr k2 k5) k8, Opr_cong k9 (fun p hp => ts_3 c hc p hp)⟩
      rw [hn, ts10s hB1.2.1 (by decide) (by decide), hn, k1, k4, ts25o hB3.2.1 (by decide), ts10s hB3.2.1 (by decide) (by decide), hn, k7, ts25o hB4.2.1 (by decide), ts10s hB4.2.1 (by decide) (by decide), hn, ts25o hB4.2.1 (by decide), ts10o hB4.2.1 (by decide)]
  obtain ⟨a', m1, m2, m3⟩ := main
  refine ⟨upd g 21 (nI 2), a', ?_, Sm_tr s1 (Sm_mo m2 (by decide) (by decide)), m3⟩
  unfold f_X3_trySymmetric
  rw [show (2 : Int32) = nI 2 from rfl, e1, Option.bind_some]
  exact m1
def nS (d : Nat) : Nat := if d = 2 then 2 else 27
def VS (d R : Nat) (pl tu : Nat → Nat) (c : Nat) : Prop := (∀ q, q < d ^ 3 → pAss d (TS d c) q) ∧ Kp d R pl tu 2 (TS d c)
theorem fs20 {d R N : Nat} {pl tu : Nat → Nat} (hN : N ≤ 27) : ∀ (r c n : Nat) (g : xG) (a : xA), c + r = N → r < n → Bas d g a → RX d R pl tu g a → (∀ c', c' < c → ¬ VS d R pl tu c') →
    ∃ x g' a', f_X3_firstSemilattice_20 n g a (nI N) (nI c) = some (x, g', a') ∧ Sm [2, 3, 21] [8, 9, 53] g a g' a' ∧ FirstR (VS d R pl tu) N (fun c => lN (nm d (TS d c) (d ^ 2))) x
  | 0, c, n, g, a, hc, hn, hB, hR, hno => by
    obtain ⟨n, rfl⟩ := pos_of hn
    refine ⟨-1, g, a, ?_, Sm_rfl, Or.inl ⟨rfl, fun v' h => hno v' (by omega)⟩⟩
    rw [e_X3_firstSemilattice_20, if_pos (nI_le (by omega) (by omega))]
  | r + 1, c, n, g, a, hc, hn, hB, hR, hno => by
    obtain ⟨n, rfl⟩ := pos_of hn
    have hd := hB.1
    obtain ⟨g1, a1, e1, e2, e3⟩ := symX hB (c := c) (by omega)
    have s1 : Sm [2, 3, 21] [8, 9, 53] g a g1 a1 := Sm_mo e2 (by decide) (by decide)
    have hB1 := Bas_sm hB s1
    have next : ∀ (g2 : xG) (a2 : xA), Sm [2, 3, 21] [8, 9, 53] g a g2 a2 → ¬ VS d R pl tu c → ∃ x g' a', f_X3_firstSemilattice_20 n g2 a2 (nI N) (nI (c + 1)) = some (x, g', a') ∧ Sm [2, 3, 21] [8, 9, 53] g a g' a' ∧ FirstR (VS d R pl tu) N (fun c => lN (nm d (TS d c) (d ^ 2))) x := fun g2 a2 s2 hnc => by
      obtain ⟨x, g3, a3, k1, k2, k3⟩ := fs20 hN r (c + 1) n g2 a2 (by omega) (by omega) (Bas_sm hB s2) (RX_sm hR s2) (fun c' h => by
        by_cases he : c' = c
        · rw [he]; exact hnc
        · exact hno c' (by omega))
      exact ⟨x, g3, a3, k1, Sm_tr s2 k2, k3⟩
    rw [e_X3_firstSemilattice_20, if_neg (nI_ge (by omega) (by omega)), e1, Option.bind_some, show nI c + 1 = nI (c + 1) from nI_1 c]
    rcases asX hB1 e3 with ⟨q1, q2⟩ | ⟨q1, q2⟩
    · obtain ⟨b, g2, a2, e4, e5, e6⟩ := tka hB1 (RX_sm hR s1) e3
      have s2 : Sm [2, 3, 21] [8, 9, 53] g a g2 a2 := Sm_tr s1 (Sm_mo e5 (by decide) (by decide))
      dsimp only
      rw [q1, Option.bind_some, if_neg (show ¬ nI 1 = 0 by decide), e4, Option.bind_some]
      cases hb : b with
      | false =>
        dsimp only
        rw [if_pos (by decide)]
        exact next g2 a2 s2 (fun q => by rw [e6.mpr q.2] at hb; cases hb)
      | true =>
        refine ⟨_, g2, a2, ?_, s2, Or.inr ⟨c, by omega, ⟨q2, e6.mp hb⟩, hno, rfl⟩⟩
        dsimp only
        rw [if_neg (by decide), wcX (Bas_sm hB s2) (Opr_sm e3 e5), Option.bind_some]
    · dsimp only
      rw [q1, Option.bind_some, if_pos (show nI 0 = 0 from rfl)]
      exact next g1 a1 s1 (fun q => q2 q.1)
def WS (d R : Nat) (pl tu : Nat → Nat) (k : Nat) : Prop := (∀ q, q < d → pIdem d 2 (dg d k) q) ∧ (∀ q, q < d ^ 2 → pSym d 2 (dg d k) q) ∧ (∀ q, q < d ^ 3 → pAss d (dg d k) q) ∧ Kp d R pl tu 2 (dg d k)
theorem ft19 {d R N : Nat} {pl tu : Nat → Nat} {g : xG} (hd : d = 2 ∨ d = 3) (h0 : g 0 = nI d) (hN : N ≤ 19683) : ∀ (r c n : Nat) (a : xA), c + r = N → r < n → RM d R pl tu g a → (∀ c', c' < c → ¬ WS d R pl tu c') →
    ∃ x a', f_X12_firstOfTwo_19 g n a (nI N) (nI c) = some (x, a') ∧ SmM g a g a' ∧ FirstR (WS d R pl tu) N lN x
  | 0, c, n, a, hc, hn, hR, hno => by
    obtain ⟨n, rfl⟩ := pos_of hn
    refine ⟨-1, a, ?_, SmM_rfl, Or.inl ⟨rfl, fun v' h => hno v' (by omega)⟩⟩
    rw [e_X12_firstOfTwo_19, if_pos (nI_le (by omega) (by omega))]
  | r + 1, c, n, a, hc, hn, hR, hno => by
    obtain ⟨n, rfl⟩ := pos_of hn
    obtain ⟨a1, e1, e2, e3⟩ := triesM (a := a) hd h0 (w := 2) (code := c) (by decide) (by decide) (by omega)
    have next : ∀ (a2 : xA), SmM g a g a2 → ¬ WS d R pl tu c → ∃ x a', f_X12_firstOfTwo_19 g n a2 (nI N) (nI (c + 1)) = some (x, a') ∧ SmM g a g a' ∧ FirstR (WS d R pl tu) N lN x := fun a2 s2 hnc => by
      obtain ⟨x, a3, k1, k2, k3⟩ := ft19 hd h0 hN r (c + 1) n a2 (by omega) (by omega) (RM_sm hR s2) (fun c' h => by
        by_cases he : c' = c
        · rw [he]; exact hnc
        · exact hno c' (by omega))
      exact ⟨x, a3, k1, SmM_tr s2 k2, k3⟩
    rw [e_X12_firstOfTwo_19, if_neg (nI_ge (by omega) (by omega)), show f_X12_triesCode g a (nI c) 2 = _ from e1, Option.bind_some, show nI c + 1 = nI (c + 1) from nI_1 c]
    rcases idM hd h0 e3 with ⟨q1, q2⟩ | ⟨q1, q2⟩
    · rw [show f_X12_isIdempotent g a1 6 2 = _ from q1, Option.bind_some, if_neg (show ¬ nI 1 = 0 by decide)]
      rcases syM hd h0 e3 with ⟨q3, q4⟩ | ⟨q3, q4⟩
      · rw [show f_X12_isSymmetric g a1 6 2 = _ from q3, Option.bind_some, if_neg (show ¬ nI 1 = 0 by decide)]
        rcases asM hd h0 e3 with ⟨q5, q6⟩ | ⟨q5, q6⟩
        · rw [show f_X12_associates g a1 6 = _ from q5, Option.bind_some, if_neg (show ¬ nI 1 = 0 by decide)]
          obtain ⟨b, a2, e4, e5, e6⟩ := kaM hd h0 (RM_sm hR e2) e3
          have s2 : SmM g a g a2 := SmM_tr e2 (SmM_of e5)
          rw [show f_X12_keepsAll g a1 6 2 = _ from e4, Option.bind_some]
          cases hb : b with
          | false =>
            dsimp only
            rw [if_pos (by decide)]
            exact next a2 s2 (fun q => by rw [e6.mpr q.2.2.2] at hb; cases hb)
          | true =>
            refine ⟨lN c, a2, ?_, s2, Or.inr ⟨c, by omega, ⟨q2, q4, q6, e6.mp hb⟩, hno, rfl⟩⟩
            dsimp only
            rw [if_neg (by decide), nI_l (by omega)]
        · rw [show f_X12_associates g a1 6 = _ from q5, Option.bind_some, if_pos (show nI 0 = 0 from rfl)]
          exact next a1 e2 (fun q => q6 q.2.2.1)
      · rw [show f_X12_isSymmetric g a1 6 2 = _ from q3, Option.bind_some, if_pos (show nI 0 = 0 from rfl)]
        exact next a1 e2 (fun q => q4 q.2.1)
    · rw [show f_X12_isIdempotent g a1 6 2 = _ from q1, Option.bind_some, if_pos (show nI 0 = 0 from rfl)]
      exact next a1 e2 (fun q => q2 q.1)
theorem ph_2 : ∀ c', c' < 2 → ∀ c, c < c' → nm 2 (TS 2 c) 4 < nm 2 (TS 2 c') 4 := by decide +kernel
theorem ph_3 : ∀ c', c' < 27 → ∀ c, c < c' → nm 3 (TS 3 c) 9 < nm 3 (TS 3 c') 9 := by decide +kernel
theorem pq_2 : ∀ k, k < 16 → (∀ q, q < 2 → pt 2 2 q q q < 4 ∧ dg 2 k (pt 2 2 q q q) = q) → (∀ q, q < 4 → dg 2 k q = dg 2 k (pt 2 2 (dg 2 q 1) (dg 2 q 0) (dg 2 q 2))) → ∃ c, c < 2 ∧ k = nm 2 (TS 2 c) 4 := by decide +kernel
theorem TS_ass {d : Nat} {T T' : Nat → Nat} (hd : d = 2 ∨ d = 3) (hT : ∀ p, p < d ^ 2 → T p < d) (h : ∀ p, p < d ^ 2 → T p = T' p) {q : Nat} : pAss d T q ↔ pAss d T' q := by
  have hd0 : 0 < d := by omega
  have hl : ∀ x y, x < d → y < d → pt d 2 x y 0 < d ^ 2 := fun x y hx hy => pt_lt hd (by decide) (by decide) hx hy hd0
  have k1 := hl _ _ (dg_lt hd0 q 1) (dg_lt hd0 q 2)
  have k2 := hl _ _ (dg_lt hd0 q 0) (dg_lt hd0 q 1)
  unfold pAss
  rw [h _ k1, h _ k2]
  have t1 : T' (pt d 2 (dg d q 1) (dg d q 2) 0) < d := by rw [← h _ k1]; exact hT _ k1
  have t2 : T' (pt d 2 (dg d q 0) (dg d q 1) 0) < d := by rw [← h _ k2]; exact hT _ k2
  rw [h _ (hl _ _ (dg_lt hd0 q 0) t1), h _ (hl _ _ t2 (dg_lt hd0 q 2))]
