/-! left: the class. -/
def clsL (d : Nat) (P : Nat → Nat) (cv : Nat → Nat → Nat) (TC A : Nat → Nat) (c p : Nat) : Prop := ∀ u, (A (cv c p)).testBit u = true → ∃ t', Stn d (P c) (TC c) (cv c) t' ∧ (∀ p', p' < P c → (A (cv c p')).testBit (dg d t' p') = true) ∧ dg d t' p = u
def InvL (d V C : Nat) (P : Nat → Nat) (cv : Nat → Nat → Nat) (TC A0 A : Nat → Nat) (f : Nat → Int32) (fl c p : Nat) : Prop := (∀ v, v < 6 → f v = nI (A v) ∧ A v < 8) ∧ (∀ v u, MX (InitL d V) (SupL d C P cv TC) v u → hs V A v u) ∧ (∀ v u, (A v).testBit u = true → (A0 v).testBit u = true) ∧ ((fl = 0 ∧ A = A0 ∧ ∀ c' p', (c' < c ∨ (c' = c ∧ p' < p)) → c' < C → p' < P c' → clsL d P cv TC A0 c' p') ∨ (fl = 1 ∧ ms 3 A 6 < ms 3 A0 6))
theorem and_bit (x y i : Nat) : (x &&& y).testBit i = true ↔ x.testBit i = true ∧ y.testBit i = true := by rw [Nat.testBit_and, Bool.and_eq_true]
theorem it14 {d V C : Nat} {cr P : Nat → Nat} {cv : Nat → Nat → Nat} {TC A0 : Nat → Nat} {g : xG} {c : Nat} (hc : c < C) {K : xA → Int32 → Int32 → Option (Int32 × xA)} :
    ∀ (r p n : Nat) (a : xA) (A : Nat → Nat) (fl : Nat), p + r = P c → r < n → Bas d g a → Ins d 1 V C cr P cv TC g a → InvL d V C P cv TC A0 A (a 36) fl c p →
    ∃ f A' fl', f_X2_isSomethingTakenAway_14 1 g K n a (nI fl) (nI c) (nI p) = K (upA a 36 f) (nI fl') (nI (c + 1)) ∧ InvL d V C P cv TC A0 A' f fl' (c + 1) 0
  | 0, p, n, a, A, fl, hp, hn, hB, hI, hv => by
    obtain ⟨n, rfl⟩ := pos_of hn
    obtain ⟨h1, h2, h3, h4, h5, h6, h7, h8, h9⟩ := hI.2.2.2.2.2 c hc
    refine ⟨a 36, A, fl, ?_, hv.1, hv.2.1, hv.2.2.1, ?_⟩
    · rw [e_X2_isSomethingTakenAway_14, plC hI hc, if_pos (nI_le (by omega) (by omega)), upA_id, show nI c + 1 = nI (c + 1) from nI_1 c]
    · rcases hv.2.2.2 with ⟨q1, q2, q3⟩ | q
      · refine Or.inl ⟨q1, q2, fun c' p' k1 k2 k3 => q3 c' p' ?_ k2 k3⟩
        rcases k1 with k1 | ⟨k1, k4⟩
        · by_cases he : c' = c
          · subst he
            exact Or.inr ⟨rfl, by omega⟩
          · exact Or.inl (by omega)
        · omega
      · exact Or.inr q
  | r + 1, p, n, a, A, fl, hp, hn, hB, hI, hv => by
    obtain ⟨n, rfl⟩ := pos_of hn
    have hV := hI.2.1
    have hd := hB.1
    obtain ⟨h1, h2, h3, h4, h5, h6, h7, h8, h9⟩ := hI.2.2.2.2.2 c hc
    have hpc : p < P c := by omega
    have v1 := (h9 p hpc).2
    obtain ⟨x, s1, s2, s3⟩ := suppX (A := A) hB hI hv.1 hc hpc
    obtain ⟨k1, k2⟩ := hv.1 (cv c p) (by omega)
    have e36 : a (29 + 7 * 1) = a 36 := rfl
    have k3 : A (cv c p) &&& x < 8 := Nat.lt_of_le_of_lt Nat.and_le_left k2
    rw [e_X2_isSomethingTakenAway_14, plC hI hc, if_neg (nI_ge (by omega) (by omega)), s1, Option.bind_some, vOn hd hI hc hpc, e36, at_in (by omega) (by decide), k1, nI_and, show nI p + 1 = nI (p + 1) from nI_1 p]
    have hB' : Bas d g (upA a 36 (upd (a 36) (cv c p) (nI (A (cv c p) &&& x)))) := Bas_fr hB rfl (upA_n _ _ (by decide)) (upA_n _ _ (by decide))
    have hI' : Ins d 1 V C cr P cv TC g (upA a 36 (upd (a 36) (cv c p) (nI (A (cv c p) &&& x)))) := Ins_29 (f := upd (a 36) (cv c p) (nI (A (cv c p) &&& x))) hI
    have step : ∀ (A1 : Nat → Nat) (fl1 : Nat), InvL d V C P cv TC A0 A1 (upd (a 36) (cv c p) (nI (A (cv c p) &&& x))) fl1 c (p + 1) → ∃ f A' fl', f_X2_isSomethingTakenAway_14 1 g K n (upA a 36 (upd (a 36) (cv c p) (nI (A (cv c p) &&& x)))) (nI fl1) (nI c) (nI (p + 1)) = K (upA a 36 f) (nI fl') (nI (c + 1)) ∧ InvL d V C P cv TC A0 A' f fl' (c + 1) 0 := fun A1 fl1 hi => by
      obtain ⟨f, A', fl', q1, q2⟩ := it14 hc (K := K) r (p + 1) n (upA a 36 (upd (a 36) (cv c p) (nI (A (cv c p) &&& x)))) A1 fl1 (by omega) (by omega) hB' hI' (by rw [upA_s]; exact hi)
      rw [upA_2] at q1
      exact ⟨f, A', fl', q1, q2⟩
    have hfl : fl < 2 := by
      rcases hv.2.2.2 with ⟨q, _⟩ | ⟨q, _⟩ <;> omega
    by_cases he : A (cv c p) &&& x = A (cv c p)
    · rw [if_pos (show nI (A (cv c p) &&& x) = nI (A (cv c p)) by rw [he])]
      refine it14 hc (K := K) r (p + 1) n a A fl (by omega) (by omega) hB hI ⟨hv.1, hv.2.1, hv.2.2.1, ?_⟩
      rcases hv.2.2.2 with ⟨q1, q2, q3⟩ | q
      · refine Or.inl ⟨q1, q2, fun c' p' j1 j2 j3 => ?_⟩
        by_cases hcp : c' = c ∧ p' = p
        · obtain ⟨rfl, rfl⟩ := hcp
          intro u hu
          rw [← q2] at hu ⊢
          rw [← he, and_bit] at hu
          exact (s3 u).mp hu.2
        · exact q3 c' p' (by omega) j2 j3
      · exact Or.inr q
    · rw [if_neg (fun h => he ((nI_eqs (by omega) (by omega)).mp h)), put_in (by omega) (by decide), z1]
      have hsub : ∀ i, (A (cv c p) &&& x).testBit i = true → (A (cv c p)).testBit i = true := fun i hi => ((and_bit _ _ _).mp hi).1
      refine step (fun j => if j = cv c p then A (cv c p) &&& x else A j) 1 ⟨fun v hv6 => ?_, ?_, fun v u hu => ?_, Or.inr ⟨rfl, ?_⟩⟩
      · dsimp only
        by_cases hev : v = cv c p
        · rw [if_pos hev, hev, upd_s]
          exact ⟨rfl, k3⟩
        · rw [if_neg hev, upd_n _ _ hev]
          exact hv.1 v hv6
      · refine MX_keep SupL_mono hv.2.1 (fun k u q1 q2 => ⟨q1.1, ?_⟩)
        dsimp only
        by_cases hev : k = cv c p
        · rw [if_pos hev, and_bit]
          refine ⟨hev ▸ q1.2, (s3 u).mpr ?_⟩
          obtain ⟨t, t1, t2⟩ := q2 c hc ⟨p, hpc, hev.symm⟩
          refine ⟨t, t1, fun p' hp' => ?_, (t2 p hpc).1 hev.symm⟩
          by_cases hk : cv c p' = k
          · rw [(t2 p' hp').1 hk, hk]
            exact q1.2
          · exact ((t2 p' hp').2 hk).2
        · rw [if_neg hev]
          exact q1.2
      · dsimp only at hu
        by_cases hev : v = cv c p
        · rw [if_pos hev] at hu
          rw [hev]
          exact hv.2.2.1 _ _ (hsub u hu)
        · rw [if_neg hev] at hu
          exact hv.2.2.1 _ _ hu
      · obtain ⟨i, i1, i2⟩ := sub_ne hsub he
        have := ms_lt (A := A) (k := cv c p) (B := 3) hsub i1 i2 (bit_lt (n := 3) k2 i2) 6 (by omega)
        rcases hv.2.2.2 with ⟨_, q2, _⟩ | ⟨_, q⟩
        · rw [q2] at this ⊢
          exact this
        · omega
theorem it4 {d V C : Nat} {cr P : Nat → Nat} {cv : Nat → Nat → Nat} {TC A0 : Nat → Nat} {g : xG} :
    ∀ (r c n : Nat) (a : xA) (A : Nat → Nat) (fl : Nat), c + r = C → r < n → Bas d g a → Ins d 1 V C cr P cv TC g a → InvL d V C P cv TC A0 A (a 36) fl c 0 →
    ∃ f A' fl', f_X2_isSomethingTakenAway_4 1 g n a (nI fl) (nI c) = some (nI fl', upA a 36 f) ∧ InvL d V C P cv TC A0 A' f fl' C 0
  | 0, c, n, a, A, fl, hp, hn, hB, hI, hv => by
    obtain ⟨n, rfl⟩ := pos_of hn
    have hC := hI.2.2.1
    have e : c = C := by omega
    subst e
    have hfl : fl = 0 ∨ fl = 1 := by
      rcases hv.2.2.2 with ⟨q, _⟩ | ⟨q, _⟩
      · exact Or.inl q
      · exact Or.inr q
    refine ⟨a 36, A, fl, ?_, hv⟩
    rw [e_X2_isSomethingTakenAway_4, hI.2.2.2.2.1, if_pos (nI_le (by omega) (by omega)), ck_t (boB_b hfl), upA_id]
  | r + 1, c, n, a, A, fl, hp, hn, hB, hI, hv => by
    obtain ⟨n, rfl⟩ := pos_of hn
    have hC := hI.2.2.1
    have hc : c < C := by omega
    obtain ⟨h1, h2, h3, h4, h5, h6, h7, h8, h9⟩ := hI.2.2.2.2.2 c hc
    obtain ⟨f, A1, fl1, e1, e2⟩ := it14 hc (K := f_X2_isSomethingTakenAway_4 1 g n) (P c) 0 fu a A fl (by omega) (fu_gt (by omega)) hB hI hv
    obtain ⟨f2, A2, fl2, e3, e4⟩ := it4 r (c + 1) n (upA a 36 f) A1 fl1 (by omega) (by omega) (Bas_fr hB rfl (upA_n _ _ (by decide)) (upA_n _ _ (by decide))) (Ins_29 (f := f) hI) (by rw [upA_s]; exact e2)
    rw [upA_2] at e3
    refine ⟨f2, A2, fl2, ?_, e4⟩
    rw [e_X2_isSomethingTakenAway_4, hI.2.2.2.2.1, if_neg (nI_ge (by omega) (by omega))]
    exact e1.trans e3
theorem vl6 {d V C v : Nat} {cr P : Nat → Nat} {cv : Nat → Nat → Nat} {TC : Nat → Nat} {g : xG} (hv6 : v < 6) :
    ∀ (r q n : Nat) (a : xA) (A : Nat → Nat), q + r = 19 → r < n → ms 3 A 6 + q ≤ 18 → Bas d g a → Ins d 1 V C cr P cv TC g a → (∀ v, v < 6 → a 36 v = nI (A v) ∧ A v < 8) → (∀ v u, (A v).testBit u = true → u < d) → (∀ v u, MX (InitL d V) (SupL d C P cv TC) v u → hs V A v u) →
    ∃ f A', f_X2_valuesLeft_6 1 g n a (nI v) (nI q) = some (nI (A' v), upA a 36 f) ∧ ∀ k u, hs V A' k u ↔ MX (InitL d V) (SupL d C P cv TC) k u
  | 0, q, n, a, A, hq, hn, hms, hB, hI, ha, hd, hm => by omega
  | r + 1, q, n, a, A, hq, hn, hms, hB, hI, ha, hd, hm => by
    obtain ⟨n, rfl⟩ := pos_of hn
    obtain ⟨f, A1, fl, e1, e2⟩ := it4 (A0 := A) C 0 fu a A 0 (by omega) (fu_gt (by have := hI.2.2.1; omega)) hB hI ⟨ha, hm, fun _ _ h => h, Or.inl ⟨rfl, rfl, fun c' p' h => by omega⟩⟩
    have e1' : f_X2_isSomethingTakenAway 1 g a = some (nI fl, upA a 36 f) := e1
    rw [e_X2_valuesLeft_6, if_neg (show ¬ (18 : Int32) < nI q from nI_nlt (a := 18) (by omega) (by decide)), e1', Option.bind_some, show nI q + 1 = nI (q + 1) from nI_1 q]
    rcases e2.2.2.2 with ⟨q1, q2, q3⟩ | ⟨q1, q2⟩
    · refine ⟨f, A1, ?_, fun k u => MX_eq (fun k u hk => ⟨⟨hk.1, hd k u (q2 ▸ hk.2)⟩, fun c hc ⟨p, p1, p2⟩ => ?_⟩) e2.2.1 k u⟩
      · rw [q1, if_pos (show nI 0 = 0 from rfl)]
        unfold f_X2_valuesLeft_28
        show some (atF 6 (upA a 36 f 36) (nI v), upA a 36 f) = _
        rw [upA_s, at_in hv6 (by decide), (e2.1 v hv6).1]
      · rw [q2] at hk ⊢
        obtain ⟨t, t1, t2, t3⟩ := q3 c p (Or.inl hc) hc p1 u (by rw [p2]; exact hk.2)
        obtain ⟨h1, h2, h3, h4, h5, h6, h7, h8, h9⟩ := hI.2.2.2.2.2 c hc
        exact ⟨t, t1, fun p' hp' => ⟨fun k1 => by rw [← t3]; exact t1.2.2 p' p hp' p1 (k1.trans p2.symm), fun _ => ⟨(h9 p' hp').2, t2 p' hp'⟩⟩⟩
    · obtain ⟨f2, A2, e3, e4⟩ := vl6 hv6 r (q + 1) n (upA a 36 f) A1 (by omega) (by omega) (by omega) (Bas_fr hB rfl (upA_n _ _ (by decide)) (upA_n _ _ (by decide))) (Ins_29 (f := f) hI) (by rw [upA_s]; exact e2.1) (fun v u hu => hd v u (e2.2.2.1 v u hu)) e2.2.1
      rw [upA_2] at e3
      refine ⟨f2, A2, ?_, e4⟩
      rw [q1, if_neg (show ¬ nI 1 = 0 by decide)]
      exact e3
theorem leftX {d V C v : Nat} {cr P : Nat → Nat} {cv : Nat → Nat → Nat} {TC : Nat → Nat} {g : xG} {a : xA} (hv : v < V) (hB : Bas d g a) (hI : Ins d 1 V C cr P cv TC g a) :
    ∃ f f' A, f_X2_valuesLeft 1 g a (nI v) = some (nI (A v), upA (upA a 36 f) 36 f') ∧ ∀ k u, hs V A k u ↔ MX (InitL d V) (SupL d C P cv TC) k u := by
  have hV := hI.2.1
  obtain ⟨f, e1, e2⟩ := allowA (j := 1) (by decide) hB
  have hd8 : 2 ^ d - 1 < 8 := by rcases hB.1 with rfl | rfl <;> decide
  obtain ⟨f', A, e3, e4⟩ := vl6 (v := v) (by omega) 19 0 fu (upA a 36 f) (fun _ => 2 ^ d - 1) rfl (fu_gt (by omega)) (ms_le (B := 3) (A := fun _ => 2 ^ d - 1) 6) (Bas_fr hB rfl (upA_n _ _ (by decide)) (upA_n _ _ (by decide))) (Ins_29 (f := f) hI) (fun v hv => by
    rw [upA_s]
    exact ⟨e2 v hv, hd8⟩) (fun v u hu => by
    rw [Nat.testBit_two_pow_sub_one] at hu
    exact of_decide_eq_true hu) (fun v u q => by
    obtain ⟨S, h1, h2⟩ := q
    obtain ⟨⟨k1, k2⟩, _⟩ := h1 v u h2
    exact ⟨k1, all_bit k2⟩)
  refine ⟨f, f', A, ?_, e4⟩
  unfold f_X2_valuesLeft
  rw [e1, Option.bind_some]
  exact e3
