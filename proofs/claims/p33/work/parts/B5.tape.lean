/-! The tape, with what is typed; a formula of two atoms. -/
def StT (T : Nat) (ch : Nat → Nat) (d R K V C : Nat) (pl tu ar cr : Nat → Nat) (an cv : Nat → Nat → Nat) (g : xG) (a : xA) : Prop := ∃ (gm : xG) (am : xA), Bas d g a ∧ gm 0 = nI d ∧ CR d R pl tu g a gm am ∧ CK d K ar an g a gm am ∧ CT T ch g a gm am ∧ CI R V C pl cr cv g a gm am
theorem StT_St {T : Nat} {ch : Nat → Nat} {d R K V C : Nat} {pl tu ar cr : Nat → Nat} {an cv : Nat → Nat → Nat} {g : xG} {a : xA} (h : StT T ch d R K V C pl tu ar cr an cv g a) : St d R K V C pl tu ar cr an cv g a := by
  obtain ⟨gm, am, h⟩ := h
  exact ⟨T, ch, gm, am, h⟩
theorem St_StT {d R K V C : Nat} {pl tu ar cr : Nat → Nat} {an cv : Nat → Nat → Nat} {g : xG} {a : xA} (h : St d R K V C pl tu ar cr an cv g a) : ∃ T ch, StT T ch d R K V C pl tu ar cr an cv g a := by
  obtain ⟨T, ch, gm, am, h⟩ := h
  exact ⟨T, ch, gm, am, h⟩
section TA
variable {T : Nat} {ch : Nat → Nat} {d R K V C : Nat} {pl tu ar cr : Nat → Nat} {an cv : Nat → Nat → Nat} {g : xG} {a : xA}
theorem StT_fr {g' : xG} {a' : xA} (h : StT T ch d R K V C pl tu ar cr an cv g a) (s : Sm PX QX g a g' a') : StT T ch d R K V C pl tu ar cr an cv g' a' := by
  obtain ⟨gm, am, hB, h0, hR, hK, hT, hI⟩ := h
  have sm : SmM gm am gm am := SmM_rfl
  refine ⟨gm, am, Bas_sm hB s, (sm.1 0 (by decide)).trans h0, ⟨hR.1, (s.1 1 (by decide)).trans hR.2.1, (sm.1 1 (by decide)).trans hR.2.2.1, (congrFun (s.2 5 (by decide)) 8).trans hR.2.2.2.1, (congrFun (s.2 6 (by decide)) 8).trans hR.2.2.2.2.1, fun r hr => ?_⟩, ⟨hK.1, (s.1 4 (by decide)).trans hK.2.1, (sm.1 2 (by decide)).trans hK.2.2.1, fun k hk => ?_⟩, ⟨hT.1, (s.1 6 (by decide)).trans hT.2.1, (sm.1 3 (by decide)).trans hT.2.2.1, fun i hi => ?_⟩, ⟨hI.1, hI.2.1, hI.2.2.1, (s.1 14 (by decide)).trans hI.2.2.2.1, (sm.1 6 (by decide)).trans hI.2.2.2.2.1, (s.1 13 (by decide)).trans hI.2.2.2.2.2.1, (sm.1 7 (by decide)).trans hI.2.2.2.2.2.2.1, fun c hc => ?_⟩⟩
  · obtain ⟨q1, q2, q3, q4, q5⟩ := hR.2.2.2.2.2 r hr
    exact ⟨(congrFun (s.2 5 (by decide)) r).trans q1, (congrFun (sm.2.1 1 (by decide) (by decide)) r).trans q2, (congrFun (s.2 6 (by decide)) r).trans q3, (congrFun (sm.2.1 2 (by decide) (by decide)) r).trans q4, q5⟩
  · obtain ⟨q1, q2, q3⟩ := hK.2.2.2 k hk
    have hk6 : k < 6 := Nat.lt_of_lt_of_le hk hK.1
    have hw27 := pw3 hB.1 q1.2.2.2.1
    have hp : ∀ k, k < 6 → ¬ (15 + k) ∈ PX ∧ ¬ (47 + k) ∈ QX := by decide
    refine ⟨⟨q1.1, (s.1 _ (hp k hk6).1).trans q1.2.1, q1.2.2.1, q1.2.2.2.1, fun p hp1 => ⟨(congrFun (s.2 _ (hp k hk6).2) p).trans (q1.2.2.2.2 p hp1).1, (q1.2.2.2.2 p hp1).2⟩⟩, ⟨q2.1, q2.2.1, q2.2.2.1, fun p hp1 => ⟨(sm.2.2 _ (by omega)).trans (q2.2.2.2 p hp1).1, (q2.2.2.2 p hp1).2⟩⟩, (congrFun (sm.2.1 3 (by decide) (by decide)) k).trans q3⟩
  · obtain ⟨q1, q2, q3⟩ := hT.2.2.2 i hi
    exact ⟨(congrFun (s.2 20 (by decide)) i).trans q1, (congrFun (sm.2.1 5 (by decide) (by decide)) i).trans q2, q3⟩
  · obtain ⟨q1, q2, q3, q4, q5, q6⟩ := hI.2.2.2.2.2.2.2 c hc
    refine ⟨q1, (congrFun (s.2 32 (by decide)) c).trans q2, (congrFun (sm.2.1 9 (by decide) (by decide)) c).trans q3, (congrFun (s.2 33 (by decide)) c).trans q4, (congrFun (s.2 35 (by decide)) c).trans q5, fun p hp => ?_⟩
    obtain ⟨r1, r2, r3⟩ := q6 p hp
    exact ⟨(congrFun (s.2 34 (by decide)) _).trans r1, (congrFun (sm.2.1 10 (by decide) (by decide)) _).trans r2, r3⟩
theorem wipe_T (h : StT T ch d R K V C pl tu ar cr an cv g a) : StT 0 ch d R K V C pl tu ar cr an cv (t_X11_wipe g a).2 a := by
  obtain ⟨gm, am, hB, h0, hR, hK, hT, hI⟩ := h
  refine ⟨upd (upd gm 8 0) 3 0, am, ?_⟩
  show Bas d (upd g 6 0) a ∧ upd (upd gm 8 0) 3 0 0 = nI d ∧ CR d R pl tu (upd g 6 0) a (upd (upd gm 8 0) 3 0) am ∧ CK d K ar an (upd g 6 0) a (upd (upd gm 8 0) 3 0) am ∧ CT 0 ch (upd g 6 0) a (upd (upd gm 8 0) 3 0) am ∧ CI R V C pl cr cv (upd g 6 0) a (upd (upd gm 8 0) 3 0) am
  have hg : ∀ j, j ≠ 6 → upd g 6 0 j = g j := fun j hj => upd_n _ _ hj
  have hm : ∀ j, j ≠ 8 → j ≠ 3 → upd (upd gm 8 0) 3 0 j = gm j := fun j h1 h2 => up2 h1 h2
  exact ⟨Bas_fr hB (hg _ (by decide)) rfl rfl, (hm _ (by decide) (by decide)).trans h0, CR_fr hR (hg _ (by decide)) (hm _ (by decide) (by decide)) rfl rfl rfl rfl, CK_fr hK (hg _ (by decide)) (hm _ (by decide) (by decide)) (fun k hk => hg _ (by omega)) (fun _ _ => rfl) rfl rfl, ⟨Nat.zero_le _, upd_s .., upd_s .., fun i hi => by omega⟩, CI_fr hI (Nat.le_refl _) (fun _ _ => rfl) (hg _ (by decide)) (hg _ (by decide)) (hm _ (by decide) (by decide)) (hm _ (by decide) (by decide)) rfl rfl rfl rfl rfl rfl⟩
/-- what typing does, if the characters can be on the tape -/
theorem q_type (h : StT T ch d R K V C pl tu ar cr an cv g a) {N : Nat} (hN1 : 1 ≤ N) (hN : N ≤ 8) {v : Int64} {c : Nat → Nat} (hc : ∀ i, i < N → f_X11_signOf g0X a0X v (nI i) = some (nI (c i)) ∧ c i < 256 ∧ t_X9_canHold g0X a0X (nI (c i)) = 1) :
    (60 < T + N ∧ f_X11_type g a v (nI N) = some (.inl (2, g, a))) ∨ (T + N ≤ 60 ∧ ∃ g' a', f_X11_type g a v (nI N) = some (.inr (nI (T + N), g', a')) ∧ StT (T + N) (fun i => if i < T then ch i else c (i - T)) d R K V C pl tu ar cr an cv g' a') := by
  obtain ⟨gm, am, hB, h0, hR, hK, hT, hI⟩ := h
  obtain ⟨t1, t2, t3, t4⟩ := id hT
  obtain ⟨s, hs⟩ := signs v
  have hsc : ∀ i, i < N → s i = c i := fun i hi => by
    obtain ⟨s1, s2, _⟩ := hs i (by omega)
    have e := (s2 g0X a0X).symm.trans (hc i hi).1
    exact nI_inj (by omega) (by have := (hc i hi).2.1; omega) (Option.some.inj e)
  have hch : ∀ j, j < N → t_X9_canHold g a (nI (s j)) = 1 ∧ sgn (s j) := fun j hj => by
    have e : t_X9_canHold g a (nI (s j)) = 1 := by rw [hsc j hj]; exact (hc j hj).2.2
    refine ⟨e, ?_⟩
    rcases sgK (g := g) (a := a) (gm := gm) (am := am) (hs j (by omega)).1 with ⟨_, _, w⟩ | ⟨w, _⟩
    · exact w
    · rw [e] at w
      exact absurd w (by decide)
  have eX : f_X11_type g a v (nI N) = f_X11_type_25 fu g a v (nI N) 0 := by
    unfold f_X11_type
    rw [if_neg (show ¬ nI N < 1 from nI_nlt (b := 1) (a := N) hN1 (by omega)), if_pos (show nI N ≤ 8 from nI_le (b := 8) hN (by decide))]
  have g6 : g 6 + nI N = nI (T + N) := by rw [t2, nI_add]
  rcases ty25 (g := g) (a := a) hN hs N 0 fu (by omega) (fu_gt (by omega)) with ⟨⟨j, j1, j2, j3⟩, k⟩ | ⟨k1, k2⟩
  · rw [(hch j j2).1] at j3
    exact absurd j3 (by decide)
  · by_cases q : T + N ≤ 60
    · obtain ⟨f, f1, f2, f3⟩ := ty88 hN hs N 0 fu g a T (by omega) (fu_gt (by omega)) t2 q
      refine Or.inr ⟨q, upd g 6 (nI (T + N)), upA a 20 f, ?_, upd (upd gm 8 0) 3 (nI (T + N)), upA am 5 (fun i => if i < T then am 5 i else nI (s (i - T))), ?_⟩
      · refine eX.trans (k2.trans ?_)
        rw [if_pos (by rw [g6]; exact nI_le (b := 60) q (by decide))]
        exact f1
      · have x1 : ∀ i, i ≠ 6 → (upd g 6 (nI (T + N))) i = g i := fun i h => upd_n _ _ h
        have x2 : ∀ i, i ≠ 20 → (upA a 20 f) i = a i := fun i h => upA_n _ _ h
        have x3 : ∀ i, i ≠ 3 → i ≠ 8 → (upd (upd gm 8 0) 3 (nI (T + N))) i = gm i := fun i h h' => (upd_n _ _ h).trans (upd_n _ _ h')
        have x4 : ∀ i, i ≠ 5 → (upA am 5 (fun i => if i < T then am 5 i else nI (s (i - T)))) i = am i := fun i h => upA_n _ _ h
        refine ⟨?_, ?_, ?_, ?_, ?_, ?_⟩
        · exact Bas_fr hB (x1 0 (by decide)) (x2 2 (by decide)) (x2 3 (by decide))
        · rw [x3 0 (by decide) (by decide), h0]
        · exact CR_fr hR (x1 1 (by decide)) (x3 1 (by decide) (by decide)) (x2 5 (by decide)) (x2 6 (by decide)) (x4 1 (by decide)) (x4 2 (by decide))
        · exact CK_fr hK (x1 4 (by decide)) (x3 2 (by decide) (by decide)) (fun k hk => x1 (15 + k) (by omega)) (fun k hk => x2 (47 + k) (by omega)) (x4 3 (by decide)) (x4 4 (by decide))
        · refine ⟨q, upd_s g 6 _, upd_s (upd gm 8 0) 3 _, fun i hi => ?_⟩
          rw [upA_s, upA_s]
          by_cases hiT : i < T
          · obtain ⟨z1, z2, z3⟩ := t4 i hiT
            dsimp only
            rw [if_pos hiT, if_pos hiT, f2 i hiT]
            exact ⟨z1, z2, z3⟩
          · obtain ⟨j, rfl⟩ : ∃ j, i = T + j := ⟨i - T, by omega⟩
            dsimp only
            rw [if_neg hiT, if_neg hiT, f3 j (by omega), Nat.zero_add, show T + j - T = j by omega, ← hsc j (by omega)]
            exact ⟨rfl, rfl, (hch j (by omega)).2⟩
        · exact CI_fr hI (Nat.le_refl _) (fun _ _ => rfl) (x1 14 (by decide)) (x1 13 (by decide)) (x3 6 (by decide) (by decide)) (x3 7 (by decide) (by decide)) (x2 32 (by decide)) (x2 33 (by decide)) (x2 34 (by decide)) (x2 35 (by decide)) (x4 9 (by decide)) (x4 10 (by decide))
    · refine Or.inl ⟨by omega, eX.trans (k2.trans ?_)⟩
      rw [if_neg (by rw [g6]; exact nI_ge (a := 60) (by omega) (by omega))]
/-- four characters as the law types them -/
def v4 (c0 c1 c2 c3 : Int32) : Int64 := (((c0 : Int32).toInt64) + (256 * ((c1 : Int32).toInt64))) + (65536 * ((c2 : Int32).toInt64)) + (16777216 * ((c3 : Int32).toInt64))
def tri4 (x0 x1 x2 x3 i : Nat) : Nat := if i = 0 then x0 else if i = 1 then x1 else if i = 2 then x2 else x3
def okv (v : Int64) (c : Nat → Nat) (N : Nat) : Prop := ∀ i, i < N → f_X11_signOf g0X a0X v (nI i) = some (nI (c i)) ∧ c i < 256 ∧ t_X9_canHold g0X a0X (nI (c i)) = 1
theorem v4_1 : ∀ r, r < 8 → ∀ i, i < 4 → f_X11_signOf g0X a0X (v4 97 98 58 (48 + nI r)) (nI i) = some (nI (tri4 97 98 58 (48 + r) i)) ∧ tri4 97 98 58 (48 + r) i < 256 ∧ t_X9_canHold g0X a0X (nI (tri4 97 98 58 (48 + r) i)) = 1 := by decide +kernel
theorem v4_2 : ∀ x, x < 4 → ∀ i, i < 4 → f_X11_signOf g0X a0X (v4 40 97 44 (97 + nI x)) (nI i) = some (nI (tri4 40 97 44 (97 + x) i)) ∧ tri4 40 97 44 (97 + x) i < 256 ∧ t_X9_canHold g0X a0X (nI (tri4 40 97 44 (97 + x) i)) = 1 := by decide +kernel
theorem v4_3 : ∀ r, r < 8 → ∀ i, i < 4 → f_X11_signOf g0X a0X (v4 41 38 (48 + nI r) 40) (nI i) = some (nI (tri4 41 38 (48 + r) 40 i)) ∧ tri4 41 38 (48 + r) 40 i < 256 ∧ t_X9_canHold g0X a0X (nI (tri4 41 38 (48 + r) 40 i)) = 1 := by decide +kernel
theorem v4_4 : ∀ x, x < 4 → ∀ i, i < 4 → f_X11_signOf g0X a0X (v4 (97 + nI x) 44 98 41) (nI i) = some (nI (tri4 (97 + x) 44 98 41 i)) ∧ tri4 (97 + x) 44 98 41 i < 256 ∧ t_X9_canHold g0X a0X (nI (tri4 (97 + x) 44 98 41 i)) = 1 := by decide +kernel
theorem v1_1 : ∀ i, i < 1 → f_X11_signOf g0X a0X ((97 : Int32).toInt64) (nI i) = some (nI 97) ∧ 97 < 256 ∧ t_X9_canHold g0X a0X (nI 97) = 1 := by decide +kernel
theorem q_types (h : StT T ch d R K V C pl tu ar cr an cv g a) {c0 c1 c2 c3 : Int32} {c : Nat → Nat} (hT : T + 4 ≤ 60) (hc : ∀ i, i < 4 → f_X11_signOf g0X a0X (v4 c0 c1 c2 c3) (nI i) = some (nI (c i)) ∧ c i < 256 ∧ t_X9_canHold g0X a0X (nI (c i)) = 1) : ∃ g' a', f_L_types g a c0 c1 c2 c3 = some (nI (T + 4), g', a') ∧ StT (T + 4) (fun i => if i < T then ch i else c (i - T)) d R K V C pl tu ar cr an cv g' a' := by
  rcases q_type h (N := 4) (by decide) (by decide) hc with ⟨q, _⟩ | ⟨_, g', a', e1, e2⟩
  · omega
  · refine ⟨g', a', ?_, e2⟩
    have e : f_L_types g a c0 c1 c2 c3 = Option.bind (f_X11_type g a (v4 c0 c1 c2 c3) (nI 4)) (fun u1 => Sum.elim (fun z3 => (if z3.1 = 2 then some ((-9), z3.2.1, z3.2.2) else none)) (fun z3 => some (z3.1, z3.2.1, z3.2.2)) u1) := rfl
    rw [e, e1, Option.bind_some]
    rfl
theorem q_endsL (h : St d R K V C pl tu ar cr an cv g a) : ∃ x g' a', f_L_ends g a 97 = some (x, g', a') ∧ ¬ x < -9 := by
  obtain ⟨T, ch, h⟩ := St_StT h
  have e : f_L_ends g a 97 = Option.bind (f_X11_type g a ((97 : Int32).toInt64) (nI 1)) (fun u1 => Sum.elim (fun z3 => (if z3.1 = 2 then some ((-9), z3.2.1, z3.2.2) else none)) (fun z3 => some (z3.1, z3.2.1, z3.2.2)) u1) := rfl
  rcases q_type h (N := 1) (c := fun _ => 97) (by decide) (by decide) v1_1 with ⟨_, q⟩ | ⟨q, g', a', e1, e2⟩
  · refine ⟨-9, g, a, ?_, by decide⟩
    rw [e, q, Option.bind_some]
    rfl
  · refine ⟨nI (T + 1), g', a', ?_, ?_⟩
    · rw [e, e1, Option.bind_some]
      rfl
    · intro hlt
      have h1 := Int32.lt_iff_toInt_lt.mp hlt
      have h2 : (-9 : Int32).toInt = -9 := by decide
      rw [nI_toInt (by omega), h2] at h1
      omega
end TA
/-! Reading it. -/
section RD
variable {d R T : Nat} {pl tu ch : Nat → Nat} {g : xG} {a : xA} {gm : xG} {am : xA}
theorem va_is {n x : Nat} (g : xG) (a : xA) (gm : xG) (am : xA) (hx : x < 6) (hn : n = 97 + x) : t_X9_isVariable g a (nI n) = 1 ∧ nI n - 97 = nI x ∧ f_X12_isVariable gm am = f_X12_isVariable gm am := by
  rcases vaK g a gm am (n := n) (by omega) with ⟨v1, v2, v3, v4, v5⟩ | ⟨v1, v2, v3⟩
  · exact ⟨v1, by rw [v5]; congr 1; omega, rfl⟩
  · omega
theorem hdV {k x p : Nat} {hd : Nat → Nat} (hP : PZ d R T pl tu ch g a gm am) (hp : p < T) (h8 : g 8 = nI 0) (hk : k + d < 5) (h7 : g 7 = nI k) (h22 : ∀ i, i < k → a 22 i = nI (hd i) ∧ hd i < 6) (hc : ch p = 97 + x) (hx : x < 6) (hne : ∀ j, j < k → hd j ≠ x) (n : Nat) : f_X1_read_21 (n + 1) g a (nI p) = f_X1_read_21 n (upd g 7 (nI (k + 1))) (upA a 22 (upd (a 22) k (nI x))) (nI (p + 1)) := by
  have tk : f_X1_takes g a (nI (ch p)) = Option.bind (f_X1_takesInHead g a (nI (ch p))) (fun u2 => ck (boB u2.1) (some (u2.1, u2.2.1, u2.2.2))) := by
    unfold f_X1_takes
    rw [if_pos (by rw [h8]; rfl)]
  obtain ⟨v1, v5, -⟩ := va_is g a gm am hx hc
  have hd2 := hP.1
  rw [rd_step hP hp, tk]
  unfold f_X1_takesInHead
  rw [v1, if_neg (by decide), v5]
  rcases hd_X (g := g) (a := a) (x := x) (by omega) hd2 hP.2.2.2.1 h7 h22 hx k 0 fu (by omega) (fu_gt (by omega)) with ⟨⟨j, _, j1, j2⟩, _⟩ | ⟨_, x2⟩
  · exact absurd j2 (hne j j1)
  · rw [show f_X1_takesInHead_38 fu g a (nI x) 0 = _ from x2, if_pos hk, Option.bind_some, ck_t bo1, Option.bind_some, if_neg n10]
theorem hdC {k p : Nat} (hP : PZ d R T pl tu ch g a gm am) (hp : p < T) (h8 : g 8 = nI 0) (hk1 : 1 ≤ k) (hk : k ≤ 3) (h7 : g 7 = nI k) (hc : ch p = 58) (n : Nat) : f_X1_read_21 (n + 1) g a (nI p) = f_X1_read_21 n (upd g 8 1) a (nI (p + 1)) := by
  have tk : f_X1_takes g a (nI (ch p)) = Option.bind (f_X1_takesInHead g a (nI (ch p))) (fun u2 => ck (boB u2.1) (some (u2.1, u2.2.1, u2.2.2))) := by
    unfold f_X1_takes
    rw [if_pos (by rw [h8]; rfl)]
  rw [rd_step hP hp, tk]
  unfold f_X1_takesInHead
  rcases vaK g a gm am (n := ch p) (by omega) with ⟨v1, v2, v3, v4, v5⟩ | ⟨v1, v2, v3⟩
  · omega
  · rw [v1, if_pos rfl, upd_n _ _ (by decide), h7, if_pos (show nI (ch p) = 58 by rw [hc]; rfl), if_neg (nI_nle (by omega) (by omega)), Option.bind_some, ck_t bo1, Option.bind_some, if_neg n10]
theorem dgR {r p : Nat} (hP : PZ d R T pl tu ch g a gm am) (hp : p < T) (h8 : g 8 = nI 1) (hr : r < R) (hc : ch p = 48 + r) (n : Nat) : f_X1_read_21 (n + 1) g a (nI p) = f_X1_read_21 n (upd (upd (upd g 10 0) 9 (nI r)) 8 3) a (nI (p + 1)) := by
  have hR := hP.2.1
  have tk : f_X1_takes g a (nI (ch p)) = Option.bind (f_X1_takesAtBeginningOfAtom g a (nI (ch p))) (fun u6 => ck (boB u6.1) (some (u6.1, u6.2.1, u6.2.2))) := by
    unfold f_X1_takes
    rw [h8, if_neg (by decide), if_pos (show nI 1 = 1 from rfl)]
  have e48 : ∀ r, r < 8 → nI (48 + r) - 48 = nI r := by decide +kernel
  rw [rd_step hP hp, tk]
  unfold f_X1_takesAtBeginningOfAtom
  rcases vaK (upd g 10 0) a gm am (n := ch p) (by omega) with ⟨v1, v2, v3, v4, v5⟩ | ⟨v1, v2, v3⟩
  · omega
  · rw [v1, if_pos rfl, hc, e48 r (by omega)]
    have e9 : (upd (upd (upd g 10 0) 9 (nI r)) 8 3) 9 = nI r := rfl
    have e1 : (upd (upd (upd g 10 0) 9 (nI r)) 8 3) 1 = nI R := hP.2.2.2.2.1
    rw [e9, there_1 e1 hr (by omega), ck_t bo1, Option.bind_some, ck_t bo1, Option.bind_some, if_neg n10]
theorem SmP8 {v : Int32} : Sm P1 Q1 g a (upd g 8 v) a := Sm_G Sm_rfl (by decide)
/-- an atom of a relation with two variables, as the law types it -/
theorem atom6 {C r x y p n : Nat} {cr : Nat → Nat} {cv : Nat → Nat → Nat} (hP : PZ d R T pl tu ch g a gm am) (hp : p + 6 ≤ T) (hn : T < p + n) (h8 : g 8 = nI 1) (hI : IZ d C pl tu cr cv g a) (hC : C < 15) (hr : r < R) (hx : x < 6) (hy : y < 6) (c0 : ch p = 48 + r) (c1 : ch (p + 1) = 40) (c2 : ch (p + 2) = 97 + x) (c3 : ch (p + 3) = 44) (c4 : ch (p + 4) = 97 + y) (c5 : ch (p + 5) = 41) :
    (pl r = 2 ∧ ∃ m g' a' cr' cv', T < p + 6 + m ∧ f_X1_read_21 n g a (nI p) = f_X1_read_21 m g' a' (nI (p + 6)) ∧ Sm P1 Q1 g a g' a' ∧ g' 8 = nI 7 ∧ IZ d (C + 1) pl tu cr' cv' g' a') ∨ (pl r ≠ 2 ∧ ∃ q g' a', q ≤ T ∧ f_X1_read_21 n g a (nI p) = some (nI q, g', a')) := by
  have hR := hP.2.1
  have hT60 := hP.2.2.1
  obtain ⟨r5, r6, rp, rp5, r7⟩ := hP.2.2.2.2.2.2.2.2.2.2.1 r (Or.inl hr)
  have epl : plx pl r = pl r := plx_r (by omega)
  have hd2 := hP.1
  obtain ⟨n, rfl⟩ : ∃ m, n = m + 2 := ⟨n - 2, by omega⟩
  rw [show n + 2 = (n + 1) + 1 from rfl, dgR hP (by omega) h8 hr c0 (n + 1)]
  obtain ⟨gA, hgA⟩ : ∃ gA, gA = upd (upd (upd g 10 0) 9 (nI r)) 8 3 := ⟨_, rfl⟩
  have sA : Sm P1 Q1 g a gA a := by
    rw [hgA]
    exact Sm_G (Sm_G (Sm_G Sm_rfl (by decide)) (by decide)) (by decide)
  have hPA := PZ_fr hP (SmPA sA) SmM_rfl
  rw [← hgA, rd_just hPA (p := p + 1) (by omega) (Or.inr (Or.inl ⟨rfl, rfl, rfl⟩)) (by rw [hgA]; rfl) n, if_pos c1]
  have sB : Sm P1 Q1 g a (upd gA 8 (nI 4)) a := Sm_tr sA SmP8
  have hPB := PZ_fr hP (SmPA sB) SmM_rfl
  have hIB : IZ d C pl tu cr cv (upd gA 8 (nI 4)) a := by rw [hgA]; exact IZ_fr hI rfl rfl rfl rfl rfl rfl rfl
  have isv : ∀ q, q < T → (∃ z, z < 6 ∧ ch q = 97 + z) → ∀ (gm : xG) (am : xA), f_X12_signAt gm am (nI q) = some (nI (ch q)) → f_X12_isVariable gm am (nI q) = some (t_X12_in gm am (nI (ch q)) 97 102) → ¬ f_X12_isVariable gm am (nI q) = some 0 := fun q hq ⟨z, hz, hz2⟩ gm am _ h2 h3 => by
    rw [h2] at h3
    rcases vaK g a gm am (n := ch q) (by omega) with ⟨_, v2, _⟩ | ⟨_, _, v3⟩
    · rw [v2] at h3
      exact absurd h3 (by decide)
    · omega
  rcases rd_var (r := r) (i := 0) (x := fun _ => 0) hPB (q := p + 1 + 1) (n := n) (by omega) (by omega) rfl (by rw [hgA]; rfl) (by rw [hgA]; rfl) (Or.inl hr) (by omega) (by omega) hIB (fun j hj => by omega) with ⟨w1, _⟩ | ⟨_, y1, m, g1, a1, _, hm, _, _, _, w4, w5, _, w7, w8⟩
  · exact absurd w1 (isv (p + 2) (by omega) ⟨x, hx, c2⟩ _ _ (sg_M hPB (by omega)) (vr_M hPB (by omega)))
  rw [w4]
  have sC := Sm_tr sB w5
  have hPC := PZ_fr hP (SmPA sC) SmM_rfl
  obtain ⟨m, rfl⟩ : ∃ m', m = m' + 1 := ⟨m - 1, by omega⟩
  rw [epl] at w7 w8
  by_cases p1 : pl r = 1
  · obtain ⟨z1, _⟩ := w8 (by omega)
    rw [if_neg (show ¬ r = 8 by omega)] at z1
    rw [rd_just hPC (p := p + 1 + 1 + 1) (by omega) (Or.inr (Or.inr (Or.inr (Or.inl ⟨rfl, rfl, rfl⟩)))) z1 m, if_neg (show ¬ ch (p + 1 + 1 + 1) = 41 by rw [show p + 1 + 1 + 1 = p + 3 from rfl, c3]; decide)]
    exact Or.inr ⟨by omega, p + 3, _, _, by omega, rfl⟩
  obtain ⟨z1, z2, z3, z4, z5⟩ := w7 (by omega)
  rw [rd_just hPC (p := p + 1 + 1 + 1) (by omega) (Or.inr (Or.inr (Or.inl ⟨rfl, rfl, rfl⟩))) z1 m, if_pos (show ch (p + 1 + 1 + 1) = 44 from c3)]
  have sD : Sm P1 Q1 g a (upd g1 8 (nI 4)) a1 := Sm_tr sC SmP8
  have hPD := PZ_fr hP (SmPA sD) SmM_rfl
  have hID : IZ d C pl tu cr cv (upd g1 8 (nI 4)) a1 := IZ_fr z4 rfl rfl rfl rfl rfl rfl rfl
  rcases rd_var (r := r) (i := 1) hPD (q := p + 1 + 1 + 1 + 1) (n := m) (by omega) (by omega) rfl ((upd_n _ _ (by decide)).trans z2) ((upd_n _ _ (by decide)).trans z3) (Or.inl hr) (by omega) (by omega) hID z5 with ⟨w1, _⟩ | ⟨_, y2, m2, g2, a2, _, hm2, _, _, _, u4, u5, _, u7, u8⟩
  · exact absurd w1 (isv (p + 4) (by omega) ⟨y, hy, c4⟩ _ _ (sg_M hPD (by omega)) (vr_M hPD (by omega)))
  rw [u4]
  have sE := Sm_tr sD u5
  have hPE := PZ_fr hP (SmPA sE) SmM_rfl
  obtain ⟨m2, rfl⟩ : ∃ m', m2 = m' + 1 := ⟨m2 - 1, by omega⟩
  rw [epl] at u7 u8
  by_cases p2 : pl r = 2
  · obtain ⟨k1, k2⟩ := u8 (by omega)
    rw [if_neg (show ¬ r = 8 by omega)] at k1
    rw [rd_just hPE (p := p + 1 + 1 + 1 + 1 + 1) (by omega) (Or.inr (Or.inr (Or.inr (Or.inl ⟨rfl, rfl, rfl⟩)))) k1 m2, if_pos (show ch (p + 1 + 1 + 1 + 1 + 1) = 41 from c5)]
    exact Or.inl ⟨p2, m2, upd g2 8 (nI 7), a2, _, _, by omega, rfl, Sm_tr sE SmP8, upd_s .., IZ_fr k2 rfl rfl rfl rfl rfl rfl rfl⟩
  · obtain ⟨k1, _⟩ := u7 (by omega)
    rw [rd_just hPE (p := p + 1 + 1 + 1 + 1 + 1) (by omega) (Or.inr (Or.inr (Or.inl ⟨rfl, rfl, rfl⟩))) k1 m2, if_neg (show ¬ ch (p + 1 + 1 + 1 + 1 + 1) = 44 by rw [show p + 1 + 1 + 1 + 1 + 1 = p + 5 from rfl, c5]; decide)]
    exact Or.inr ⟨p2, p + 5, _, _, by omega, rfl⟩
/-- the sixteen characters of the law's formula -/
def txt (r s x y i : Nat) : Nat := if i < 4 then tri4 97 98 58 (48 + r) i else if i < 8 then tri4 40 97 44 (97 + x) (i - 4) else if i < 12 then tri4 41 38 (48 + s) 40 (i - 8) else tri4 (97 + y) 44 98 41 (i - 12)
theorem rdF {r s x y : Nat} (hP : PZ d R 16 pl tu ch g a gm am) (hch : ∀ i, i < 16 → ch i = txt r s x y i) (hr : r < R) (hs : s < R) (hx : x < 4) (hy : y < 4) : (pl r = 2 ∧ pl s = 2 ∧ ∃ g' a', f_X1_read g a = some (-1, g', a')) ∨ (¬ (pl r = 2 ∧ pl s = 2) ∧ ∃ q g' a', q ≤ 16 ∧ f_X1_read g a = some (nI q, g', a')) := by
  have hd2 := hP.1
  obtain ⟨g0, hg0⟩ : ∃ g0, g0 = t_X2_begin 0 (upd (upd g 8 0) 7 0) a 6 := ⟨_, rfl⟩
  have s0 : Sm PX QX g a g0 a := by
    rw [hg0]
    exact Sm_G (Sm_G (Sm_G (Sm_G Sm_rfl (by decide)) (by decide)) (by decide)) (by decide)
  have hP0 := PZ_fr hP s0 SmM_rfl
  have eX : f_X1_read g a = f_X1_read_21 fu g0 a (nI 0) := by rw [hg0]; rfl
  have efu : fu = ((999997 + 1) + 1) + 1 := rfl
  rw [eX, efu]
  rw [hdV (k := 0) (x := 0) (hd := fun _ => 0) hP0 (by decide) (by rw [hg0]; rfl) (by omega) (by rw [hg0]; rfl) (fun i hi => by omega) (hch 0 (by decide)) (by decide) (fun j hj => by omega)]
  obtain ⟨g1, hg1⟩ : ∃ g1, g1 = upd g0 7 (nI (0 + 1)) := ⟨_, rfl⟩
  obtain ⟨a1, ha1⟩ : ∃ a1, a1 = upA a 22 (upd (a 22) 0 (nI 0)) := ⟨_, rfl⟩
  have s1 : Sm PX QX g a g1 a1 := by
    rw [hg1, ha1]
    exact Sm_A (Sm_G s0 (by decide)) (by decide)
  have hP1 := PZ_fr hP s1 SmM_rfl
  rw [← hg1, ← ha1]
  rw [hdV (k := 1) (x := 1) (hd := fun _ => 0) hP1 (p := 0 + 1) (by decide) (by rw [hg1, hg0]; rfl) (by omega) (by rw [hg1]; rfl) (fun i hi => by rw [show i = 0 by omega, ha1]; exact ⟨rfl, by decide⟩) (hch 1 (by decide)) (by decide) (fun j hj => by decide)]
  obtain ⟨g2, hg2⟩ : ∃ g2, g2 = upd g1 7 (nI (1 + 1)) := ⟨_, rfl⟩
  obtain ⟨a2, ha2⟩ : ∃ a2, a2 = upA a1 22 (upd (a1 22) 1 (nI 1)) := ⟨_, rfl⟩
  have s2 : Sm PX QX g a g2 a2 := by
    rw [hg2, ha2]
    exact Sm_A (Sm_G s1 (by decide)) (by decide)
  have hP2 := PZ_fr hP s2 SmM_rfl
  rw [← hg2, ← ha2]
  rw [hdC (k := 2) hP2 (p := 0 + 1 + 1) (by decide) (by rw [hg2, hg1, hg0]; rfl) (by decide) (by decide) (by rw [hg2]; rfl) (hch 2 (by decide))]
  obtain ⟨g3, hg3⟩ : ∃ g3, g3 = upd g2 8 1 := ⟨_, rfl⟩
  have s3 : Sm PX QX g a g3 a2 := by
    rw [hg3]
    exact Sm_G s2 (by decide)
  have hP3 := PZ_fr hP s3 SmM_rfl
  rw [← hg3]
  have hI3 : IZ d 0 pl tu (fun _ => 0) (fun _ _ => 0) g3 a2 := ⟨by decide, by decide, by omega, by rw [hg3, hg2, hg1, hg0]; rfl, by rw [hg3, hg2, hg1, hg0]; rfl, fun c hc => by omega⟩
  rcases atom6 (r := r) (x := 0) (y := x) hP3 (p := 0 + 1 + 1 + 1) (n := 999997) (by decide) (by decide) (by rw [hg3]; rfl) hI3 (by decide) hr (by decide) (by omega) (hch 3 (by decide)) (hch 4 (by decide)) (hch 5 (by decide)) (hch 6 (by decide)) (hch 7 (by decide)) (hch 8 (by decide)) with ⟨e1, m, g4, a4, cr', cv', hm, k1, s4, k2, k3⟩ | ⟨e1, q, g', a', k1, k2⟩
  · rw [k1]
    have s4' := Sm_tr s3 (SmPA s4)
    have hP4 := PZ_fr hP s4' SmM_rfl
    obtain ⟨m, rfl⟩ : ∃ m', m = m' + 1 := ⟨m - 1, by omega⟩
    rw [rd_just hP4 (p := 0 + 1 + 1 + 1 + 6) (by decide) (Or.inr (Or.inr (Or.inr (Or.inr ⟨rfl, rfl, rfl⟩)))) k2 m, if_pos (show ch (0 + 1 + 1 + 1 + 6) = 38 from hch 9 (by decide))]
    have s5' : Sm PX QX g a (upd g4 8 (nI 1)) a4 := Sm_tr s4' (SmPA SmP8)
    have hP5 := PZ_fr hP s5' SmM_rfl
    rcases atom6 (r := s) (x := y) (y := 1) hP5 (p := 0 + 1 + 1 + 1 + 6 + 1) (n := m) (by decide) (by omega) (upd_s ..) (IZ_fr k3 rfl rfl rfl rfl rfl rfl rfl) (by decide) hs (by omega) (by decide) (hch 10 (by decide)) (hch 11 (by decide)) (hch 12 (by decide)) (hch 13 (by decide)) (hch 14 (by decide)) (hch 15 (by decide)) with ⟨e2, m', g6, a6, cr2, cv2, hm', k1', s6, k2', k3'⟩ | ⟨e2, q, g', a', k1', k2'⟩
    · rw [k1']
      have s6' := Sm_tr s5' (SmPA s6)
      have hP6 := PZ_fr hP s6' SmM_rfl
      obtain ⟨m', rfl⟩ : ∃ m2, m' = m2 + 1 := ⟨m' - 1, by omega⟩
      refine Or.inl ⟨e1, e2, g6, a6, ?_⟩
      rw [show (0 + 1 + 1 + 1 + 6 + 1 + 6) = 16 from rfl, rd_end hP6 k2' (by decide), if_pos rfl]
    · exact Or.inr ⟨fun e => e2 e.2, q, g', a', k1', k2'⟩
  · exact Or.inr ⟨fun e => e1 e.1, q, g', a', k1, k2⟩
end RD
