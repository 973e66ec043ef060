/-! constrain. -/
def Ins (d j V C : Nat) (cr P : Nat → Nat) (cv : Nat → Nat → Nat) (TC : Nat → Nat) (g : xG) (a : xA) : Prop := j < 2 ∧ V ≤ 6 ∧ C ≤ 16 ∧ g (12 + 2 * j) = nI V ∧ g (11 + 2 * j) = nI C ∧ ∀ c, c < C → cr c < 9 ∧ a (25 + 7 * j) c = nI (cr c) ∧ a (26 + 7 * j) c = nI (P c) ∧ a (28 + 7 * j) c = nI (lowv (cv c) (P c)) ∧ a 6 (cr c) = nI (TC c) ∧ TC c < 2 ^ (d ^ P c) ∧ 1 ≤ P c ∧ P c + d ≤ 5 ∧ ∀ p, p < P c → a (27 + 7 * j) (3 * c + p) = nI (cv c p) ∧ cv c p < V
theorem Ins_fr {d j V C : Nat} {cr P : Nat → Nat} {cv : Nat → Nat → Nat} {TC : Nat → Nat} {g g' : xG} {a a' : xA} (h : Ins d j V C cr P cv TC g a) (h1 : g' (12 + 2 * j) = g (12 + 2 * j)) (h2 : g' (11 + 2 * j) = g (11 + 2 * j)) (h3 : a' (25 + 7 * j) = a (25 + 7 * j)) (h4 : a' (26 + 7 * j) = a (26 + 7 * j)) (h5 : a' (27 + 7 * j) = a (27 + 7 * j)) (h6 : a' (28 + 7 * j) = a (28 + 7 * j)) (h7 : a' 6 = a 6) : Ins d j V C cr P cv TC g' a' := by
  unfold Ins at *
  rw [h1, h2, h3, h4, h5, h6, h7]
  exact h
theorem Ins_of {d R V C : Nat} {pl tu cr : Nat → Nat} {cv : Nat → Nat → Nat} {g : xG} {a : xA} {gm : xG} {am : xA} (hR : CR d R pl tu g a gm am) (hI : CI R V C pl cr cv g a gm am) : Ins d 1 V C cr (fun c => pl (cr c)) cv (fun c => tu (cr c)) g a := by
  have hR8 := hR.1
  refine ⟨by decide, hI.2.1, hI.2.2.1, hI.2.2.2.1, hI.2.2.2.2.2.1, fun c hc => ?_⟩
  obtain ⟨q1, q2, q3, q4, q5, q6⟩ := hI.2.2.2.2.2.2.2 c hc
  obtain ⟨r1, r2, r3, r4, r5, r6, r7⟩ := hR.2.2.2.2.2 _ q1
  exact ⟨by omega, q2, q4, q5, r3, r7, r5, r6, fun p hp => ⟨(q6 p hp).1, (q6 p hp).2.2⟩⟩
theorem lowv_le (f : Nat → Nat) : ∀ n, lowv f n ≤ 6
  | 0 => Nat.le_refl _
  | n + 1 => by
    have := lowv_le f n
    unfold lowv
    split <;> omega
theorem lowv_cong {f f' : Nat → Nat} : ∀ {n : Nat}, (∀ p, p < n → f p = f' p) → lowv f n = lowv f' n
  | 0, _ => rfl
  | n + 1, h => by
    unfold lowv
    rw [lowv_cong (fun p hp => h p (by omega)), h n (by omega)]
theorem lv_loop {j C n0 : Nat} {x : Nat → Nat} {g : xG} {a : xA} (hC : C < 16) (hn0 : n0 ≤ 3) (h1 : a (26 + 7 * j) C = nI n0) (h2 : ∀ p, p < n0 → a (27 + 7 * j) (3 * C + p) = nI (x p) ∧ x p < 100) : ∀ (r p n : Nat), p + r = n0 → r < n → f_X2_lowestVariable_5 j g a n (nI C) (nI (lowv x p)) (nI p) = some (nI (lowv x n0))
  | 0, p, n, hp, hn => by
    obtain ⟨n, rfl⟩ := pos_of hn
    have e : p = n0 := by omega
    subst e
    rw [e_X2_lowestVariable_5]
    unfold t_X2_placesOf
    rw [at_in (by omega) (by decide), h1, if_pos (nI_le (by omega) (by omega))]
  | r + 1, p, n, hp, hn => by
    obtain ⟨n, rfl⟩ := pos_of hn
    obtain ⟨q1, q2⟩ := h2 p (by omega)
    have hl := lowv_le x p
    have ev : t_X2_variableOn j g a (nI C) (nI p) = nI (x p) := by
      unfold t_X2_variableOn
      simp only [z3, pk_mul, nI_add]
      rw [at_in (by omega) (by decide), q1]
    rw [e_X2_lowestVariable_5, ev]
    unfold t_X2_placesOf
    rw [at_in (by omega) (by decide), h1, if_neg (nI_ge (by omega) (by omega)), show nI p + 1 = nI (p + 1) from nI_1 p]
    have e : (if nI (x p) < nI (lowv x p) then nI (x p) else nI (lowv x p)) = nI (lowv x (p + 1)) := by
      show _ = nI (if x p < lowv x p then x p else lowv x p)
      by_cases h : x p < lowv x p
      · rw [if_pos h, if_pos (nI_lt h (by omega))]
      · rw [if_neg h, if_neg (nI_nlt (by omega) (by omega))]
    rw [e]
    exact lv_loop hC hn0 h1 h2 r (p + 1) n (by omega) (by omega)
def tri3 (v2 v3 v4 : Int32) (p : Nat) : Int32 := if p = 0 then v2 else if p = 1 then v3 else v4
theorem addX {j C r n0 : Nat} {x : Nat → Nat} {g : xG} {a : xA} {v2 v3 v4 : Int32} (hj : j < 2) (hC : C < 16) (hr : r < 9) (hn0 : n0 ≤ 3) (hg : g (11 + 2 * j) = nI C) (h5 : a 5 r = nI n0) (hx : ∀ p, p < n0 → tri3 v2 v3 v4 p = nI (x p) ∧ x p < 100) :
    ∃ a' f34, f_X2_add j g a (nI r) v2 v3 v4 = some (upd g (11 + 2 * j) (nI (C + 1)), a') ∧ a' = upA (upA (upA (upA a (25 + 7 * j) (upd (a (25 + 7 * j)) C (nI r))) (26 + 7 * j) (upd (a (26 + 7 * j)) C (nI n0))) (27 + 7 * j) f34) (28 + 7 * j) (upd (a (28 + 7 * j)) C (nI (lowv x n0))) ∧ (∀ i, (i < 3 * C) → f34 i = a (27 + 7 * j) i) ∧ ∀ p, p < 3 → f34 (3 * C + p) = tri3 v2 v3 v4 p := by
  refine ⟨_, upd (upd (upd (a (27 + 7 * j)) (3 * C) v2) (3 * C + 1) v3) (3 * C + 2) v4, ?_, rfl, fun i hi => ?_, fun p hp => ?_⟩
  · have epl : t_X10_placesOf g (upA a (25 + 7 * j) (upd (a (25 + 7 * j)) C (nI r))) (nI r) = nI n0 := plOf hr (by rw [upA_n _ _ (by omega)]; exact h5)
    unfold f_X2_add
    rw [hg]
    simp only [z3, z1, z2, pk_mul, nI_add]
    simp (disch := omega) only [put_in, upA_n, upA_s, upA_2]
    rw [epl]
    have := lv_loop (j := j) (C := C) (n0 := n0) (x := x) (g := g) (a := upA (upA (upA a (25 + 7 * j) (upd (a (25 + 7 * j)) C (nI r))) (26 + 7 * j) (upd (a (26 + 7 * j)) C (nI n0))) (27 + 7 * j) (upd (upd (upd (a (27 + 7 * j)) (3 * C) v2) (3 * C + 1) v3) (3 * C + 2) v4)) hC hn0 (by rw [upA_n _ _ (by omega), upA_s, upd_s]) (fun p hp => by
      refine ⟨?_, (hx p hp).2⟩
      rw [upA_s, ← (hx p hp).1]
      have h3 : p = 0 ∨ p = 1 ∨ p = 2 := by omega
      rcases h3 with rfl | rfl | rfl
      · rw [upd_n _ _ (by omega), upd_n _ _ (by omega)]; exact upd_s ..
      · rw [upd_n _ _ (by omega), upd_s]; rfl
      · rw [upd_s]; rfl) n0 0 fu (by omega) (fu_gt (by omega))
    have e2 : f_X2_lowestVariable j g (upA (upA (upA a (25 + 7 * j) (upd (a (25 + 7 * j)) C (nI r))) (26 + 7 * j) (upd (a (26 + 7 * j)) C (nI n0))) (27 + 7 * j) (upd (upd (upd (a (27 + 7 * j)) (3 * C) v2) (3 * C + 1) v3) (3 * C + 2) v4)) (nI C) = some (nI (lowv x n0)) := this
    rw [e2, Option.bind_some]
  · rw [upd_n _ _ (by omega), upd_n _ _ (by omega), upd_n _ _ (by omega)]
  · have h3 : p = 0 ∨ p = 1 ∨ p = 2 := by omega
    rcases h3 with rfl | rfl | rfl
    · rw [upd_n _ _ (by omega), upd_n _ _ (by omega)]; exact upd_s ..
    · rw [upd_n _ _ (by omega), upd_s]; rfl
    · rw [upd_s]; rfl
/-- a variable or none, as both sides ask it -/
theorem von {V : Nat} {g : xG} {a : xA} {gm : xG} {am : xA} (hV : V ≤ 6) (hg : g 14 = nI V) (hm : gm 6 = nI V) (v : Int32) :
    (t_X11_isVariableOrNone g a v = 0 ∧ f_X12_isVariableOrNone gm am v = some 0) ∨ (t_X11_isVariableOrNone g a v = 1 ∧ f_X12_isVariableOrNone gm am v = some 1 ∧ (v = -1 ∨ (v ≠ -1 ∧ ∃ x, x < V ∧ v = nI x))) := by
  unfold t_X11_isVariableOrNone f_X12_isVariableOrNone t_X2_isThere
  rw [show g (12 + 2 * 1) = nI V from hg, hm]
  by_cases h1 : v = -1
  · refine Or.inr ⟨by rw [if_pos h1], ?_, Or.inl h1⟩
    have : t_X12_in gm am v (-1) (nI V - 1) = 1 := by
      unfold t_X12_in
      rw [h1, if_neg (by decide), if_neg]
      rcases (by omega : V = 0 ∨ V = 1 ∨ V = 2 ∨ V = 3 ∨ V = 4 ∨ V = 5 ∨ V = 6) with rfl | rfl | rfl | rfl | rfl | rfl | rfl <;> decide
    rw [this, ck_t (by decide)]
  · rcases ix3 v (R := V) (by omega) with ⟨q1, q2⟩ | ⟨x, hx, rfl⟩
    · refine Or.inl ⟨?_, ?_⟩
      · rw [if_neg h1]
        by_cases h2 : v < 0
        · rw [if_pos h2, if_pos rfl]
        · rw [if_neg h2, if_pos (q1.resolve_left h2), if_pos rfl]
      · have : t_X12_in gm am v (-1) (nI V - 1) = 0 := in_0 (by
          rcases q2 with q2 | q2
          · refine Or.inl ?_
            rw [Int32.lt_iff_toInt_lt] at q2 ⊢
            have e1 : (-1 : Int32).toInt = -1 := by decide
            rw [toI0] at q2
            rw [e1]
            have : v.toInt ≠ -1 := fun h => h1 (Int32.toInt_inj.mp (h.trans e1.symm))
            omega
          · exact Or.inr q2)
        rw [this, ck_t (by decide)]
    · have hne : nI x ≠ -1 := h1
      refine Or.inr ⟨?_, ?_, Or.inr ⟨hne, x, hx, rfl⟩⟩
      · rw [if_neg h1, if_neg (nI_pos (by omega)), if_neg (nI_ge hx (by omega)), if_neg (by decide)]
      · have : t_X12_in gm am (nI x) (-1) (nI V - 1) = 1 := by
          unfold t_X12_in
          obtain ⟨V, rfl⟩ := pos_of hx
          rw [nI_pred, if_neg, if_neg (nI_nlt (by omega) (by omega))]
          rw [Int32.lt_iff_toInt_lt, nI_toInt (by omega)]
          have e1 : (-1 : Int32).toInt = -1 := by decide
          rw [e1]
          omega
        rw [this, ck_t (by decide)]
theorem conM {gm : xG} {am : xA} {x1 x2 x3 x4 : Int32} (s : Nat) (hs : s ≠ 0) (h4 : s < 4) : f_X12_constrain_156 gm am x1 x2 x3 x4 (nI s) = some (0, upd gm 8 (nI s), am) := by
  unfold f_X12_constrain_156
  rw [if_neg (by rw [upd_s]; exact nI_nle (by omega) (by omega))]
/-- the model, once the first part is well -/
theorem conM2 {C r : Nat} {gm : xG} {am : xA} {pl : Nat → Nat} {v2 v3 v4 : Int32} (hr : r < 8) (hC : C ≤ 16) (h0 : gm 7 = nI C) (h1 : am 1 r = nI (pl r)) (hp : 1 ≤ pl r ∧ pl r ≤ 3) :
    f_X12_constrain_51 gm am (nI r) v2 v3 v4 0 = if v2 = -1 ∨ ((v3 = -1) ↔ 2 ≤ pl r) ∨ ((v4 = -1) ↔ 3 ≤ pl r) then f_X12_constrain_156 (upd gm 8 0) am (nI r) v2 v3 v4 (nI 2) else if C = 16 then f_X12_constrain_156 (upd gm 8 0) am (nI r) v2 v3 v4 (nI 3) else f_X12_constrain_156 (upd gm 8 0) am (nI r) v2 v3 v4 (nI 0) := by
  obtain ⟨B, hB⟩ : ∃ B, B = f_X12_constrain_156 (upd gm 8 0) am (nI r) v2 v3 v4 (nI 2) := ⟨_, rfl⟩
  obtain ⟨Y, hY⟩ : ∃ Y, Y = if C = 16 then f_X12_constrain_156 (upd gm 8 0) am (nI r) v2 v3 v4 (nI 3) else f_X12_constrain_156 (upd gm 8 0) am (nI r) v2 v3 v4 (nI 0) := ⟨_, rfl⟩
  have e0 : f_X12_constrain_130 (upd gm 8 0) am (nI r) v2 v3 v4 0 = B := by
    unfold f_X12_constrain_130
    rw [if_pos rfl, hB]
    rfl
  have e1 : f_X12_constrain_130 (upd gm 8 0) am (nI r) v2 v3 v4 1 = Y := by
    unfold f_X12_constrain_130
    rw [if_neg (by decide), upd_n _ _ (by decide), h0, hY]
    by_cases h : C = 16
    · rw [if_pos h, h, if_pos (show nI 16 = 16 from rfl)]
      rfl
    · rw [if_neg h, if_neg (show ¬ nI C = 16 from fun e => h ((nI_eqs (y := 16) (by omega) (by decide)).mp e))]
      rfl
  rw [← hB, ← hY]
  have c1 : am 1 (nI r).toNatClampNeg = nI (pl r) := by rw [nI_clamp (by omega)]; exact h1
  have k0 : f_X12_constrain_107 (upd gm 8 0) am (nI r) v2 v3 v4 0 = if 3 ≤ pl r then B else Y := by
    unfold f_X12_constrain_107 f_X12_constrain_122
    rw [ck_t (inB_t hr (by decide)), c1, e0, e1]
    by_cases h3 : pl r ≤ 2
    · rw [if_pos (show nI (pl r) ≤ 2 from nI_le (b := 2) h3 (by decide)), if_pos rfl, if_neg (show ¬ 3 ≤ pl r by omega)]
    · rw [if_neg (show ¬ nI (pl r) ≤ 2 from nI_ge (a := 2) (by omega) (by omega)), if_neg (by decide), if_pos (show 3 ≤ pl r by omega)]
  have k1 : f_X12_constrain_107 (upd gm 8 0) am (nI r) v2 v3 v4 1 = if 3 ≤ pl r then Y else B := by
    unfold f_X12_constrain_107 f_X12_constrain_122
    rw [ck_t (inB_t hr (by decide)), c1, e0, e1]
    by_cases h3 : pl r ≤ 2
    · rw [if_pos (show nI (pl r) ≤ 2 from nI_le (b := 2) h3 (by decide)), if_neg (by decide), if_neg (show ¬ 3 ≤ pl r by omega)]
    · rw [if_neg (show ¬ nI (pl r) ≤ 2 from nI_ge (a := 2) (by omega) (by omega)), if_pos rfl, if_pos (show 3 ≤ pl r by omega)]
  have j0 : f_X12_constrain_78 (upd gm 8 0) am (nI r) v2 v3 v4 0 = if 2 ≤ pl r then B else if v4 = -1 then (if 3 ≤ pl r then B else Y) else (if 3 ≤ pl r then Y else B) := by
    unfold f_X12_constrain_78 f_X12_constrain_93
    rw [ck_t (inB_t hr (by decide)), c1, e0, k0, k1]
    by_cases h3 : pl r ≤ 1
    · rw [if_pos (show nI (pl r) ≤ 1 from nI_le (b := 1) h3 (by decide)), if_pos rfl, if_neg (show ¬ 2 ≤ pl r by omega)]
    · rw [if_neg (show ¬ nI (pl r) ≤ 1 from nI_ge (a := 1) (by omega) (by omega)), if_neg (by decide), if_pos (show 2 ≤ pl r by omega)]
  have j1 : f_X12_constrain_78 (upd gm 8 0) am (nI r) v2 v3 v4 1 = if 2 ≤ pl r then (if v4 = -1 then (if 3 ≤ pl r then B else Y) else (if 3 ≤ pl r then Y else B)) else B := by
    unfold f_X12_constrain_78 f_X12_constrain_93
    rw [ck_t (inB_t hr (by decide)), c1, e0, k0, k1]
    by_cases h3 : pl r ≤ 1
    · rw [if_pos (show nI (pl r) ≤ 1 from nI_le (b := 1) h3 (by decide)), if_neg (by decide), if_neg (show ¬ 2 ≤ pl r by omega)]
    · rw [if_neg (show ¬ nI (pl r) ≤ 1 from nI_ge (a := 1) (by omega) (by omega)), if_pos rfl, if_pos (show 2 ≤ pl r by omega)]
  unfold f_X12_constrain_51
  rw [if_pos (le00 (by decide)), e0, j0, j1]
  by_cases c2 : v2 = -1
  · rw [if_pos c2, if_pos (Or.inl c2)]
  · rw [if_neg c2]
    by_cases c3 : v3 = -1 <;> by_cases p2 : 2 ≤ pl r <;> by_cases c4 : v4 = -1 <;> by_cases p3 : 3 ≤ pl r <;> simp only [c2, c3, p2, c4, p3, if_true, if_false, or_true, true_or, or_false, false_or, iff_true, true_iff, iff_false, false_iff, not_true, not_false_iff]
/-- the class, once the first part is well -/
theorem conX2 {C r : Nat} {g : xG} {a : xA} {pl : Nat → Nat} {v2 v3 v4 : Int32} (hC : C ≤ 16) (h0 : g 13 = nI C) (hp : 1 ≤ pl r ∧ pl r ≤ 3) (h2 : v2 ≠ -1) :
    (if v3 = (-1) then f_X11_constrain_82 g a (nI r) v2 v3 v4 (nI (pl r)) 1 else f_X11_constrain_82 g a (nI r) v2 v3 v4 (nI (pl r)) 0) = if v2 = -1 ∨ ((v3 = -1) ↔ 2 ≤ pl r) ∨ ((v4 = -1) ↔ 3 ≤ pl r) then some (.inl (1, g, a)) else if C = 16 then some (.inl (2, g, a)) else Option.bind (f_X2_add 1 g a (nI r) v2 v3 v4) (fun u13 => some (.inr ((u13.1 13), u13.1, u13.2))) := by
  obtain ⟨B, hB⟩ : ∃ B : Option ((Nat × xG × xA) ⊕ (Int32 × xG × xA)), B = some (.inl (1, g, a)) := ⟨_, rfl⟩
  obtain ⟨Y, hY⟩ : ∃ Y : Option ((Nat × xG × xA) ⊕ (Int32 × xG × xA)), Y = if C = 16 then some (.inl (2, g, a)) else Option.bind (f_X2_add 1 g a (nI r) v2 v3 v4) (fun u13 => some (.inr ((u13.1 13), u13.1, u13.2))) := ⟨_, rfl⟩
  have e0 : f_X11_constrain_121 g a = B := hB.symm
  have e1 : (if (g 13) < 16 then Option.bind (f_X2_add 1 g a (nI r) v2 v3 v4) (fun u13 => some (Sum.inr ((u13.1 13), u13.1, u13.2))) else some (Sum.inl (2, g, a)) : Option ((Nat × xG × xA) ⊕ (Int32 × xG × xA))) = Y := by
    rw [h0, hY]
    by_cases h5 : C = 16
    · rw [if_pos h5, h5, if_neg (show ¬ nI 16 < 16 by decide)]
    · rw [if_neg h5, if_pos (show nI C < 16 from nI_lt (b := 16) (by omega) (by decide))]
  rw [← hB, ← hY]
  have k0 : f_X11_constrain_107 g a (nI r) v2 v3 v4 (nI (pl r)) 0 = if 3 ≤ pl r then Y else B := by
    unfold f_X11_constrain_107 f_X11_constrain_118
    rw [e0, e1]
    by_cases h3 : pl r < 3
    · rw [if_pos (show nI (pl r) < 3 from nI_lt (b := 3) h3 (by decide)), if_pos rfl, if_neg (show ¬ 3 ≤ pl r by omega)]
    · rw [if_neg (show ¬ nI (pl r) < 3 from nI_nlt (b := 3) (by omega) (by omega)), if_neg (by decide), if_pos (show 3 ≤ pl r by omega)]
  have k1 : f_X11_constrain_107 g a (nI r) v2 v3 v4 (nI (pl r)) 1 = if 3 ≤ pl r then B else Y := by
    unfold f_X11_constrain_107 f_X11_constrain_118
    rw [e0, e1]
    by_cases h3 : pl r < 3
    · rw [if_pos (show nI (pl r) < 3 from nI_lt (b := 3) h3 (by decide)), if_neg (by decide), if_neg (show ¬ 3 ≤ pl r by omega)]
    · rw [if_neg (show ¬ nI (pl r) < 3 from nI_nlt (b := 3) (by omega) (by omega)), if_pos rfl, if_pos (show 3 ≤ pl r by omega)]
  have j0 : f_X11_constrain_82 g a (nI r) v2 v3 v4 (nI (pl r)) 0 = if 2 ≤ pl r then (if v4 = -1 then (if 3 ≤ pl r then B else Y) else (if 3 ≤ pl r then Y else B)) else B := by
    unfold f_X11_constrain_82 f_X11_constrain_93
    rw [e0, k0, k1]
    by_cases h3 : pl r < 2
    · rw [if_pos (show nI (pl r) < 2 from nI_lt (b := 2) h3 (by decide)), if_pos rfl, if_neg (show ¬ 2 ≤ pl r by omega)]
    · rw [if_neg (show ¬ nI (pl r) < 2 from nI_nlt (b := 2) (by omega) (by omega)), if_neg (by decide), if_pos (show 2 ≤ pl r by omega)]
  have j1 : f_X11_constrain_82 g a (nI r) v2 v3 v4 (nI (pl r)) 1 = if 2 ≤ pl r then B else (if v4 = -1 then (if 3 ≤ pl r then B else Y) else (if 3 ≤ pl r then Y else B)) := by
    unfold f_X11_constrain_82 f_X11_constrain_93
    rw [e0, k0, k1]
    by_cases h3 : pl r < 2
    · rw [if_pos (show nI (pl r) < 2 from nI_lt (b := 2) h3 (by decide)), if_neg (by decide), if_neg (show ¬ 2 ≤ pl r by omega)]
    · rw [if_neg (show ¬ nI (pl r) < 2 from nI_nlt (b := 2) (by omega) (by omega)), if_pos rfl, if_pos (show 2 ≤ pl r by omega)]
  rw [j0, j1]
  by_cases c3 : v3 = -1 <;> by_cases p2 : 2 ≤ pl r <;> by_cases c4 : v4 = -1 <;> by_cases p3 : 3 ≤ pl r <;> simp only [h2, c3, p2, c4, p3, if_true, if_false, or_true, true_or, or_false, false_or, iff_true, true_iff, iff_false, false_iff, not_true, not_false_iff]
