/-! keeps, breaks, closed. -/
/-- the set of what has a property -/
noncomputable def setOf (P : Nat → Prop) (N : Nat) : Nat := orS (fun c => @ite _ (P c) (Classical.propDecidable _) (some c) none) N
theorem setOf_bit {P : Nat → Prop} {N : Nat} (h : ∀ c, P c → c < N) (c : Nat) : (setOf P N).testBit c = true ↔ P c := by
  unfold setOf
  rw [orS_bit]
  constructor
  · rintro ⟨k, hk, h1⟩
    by_cases hp : P k
    · rw [if_pos hp] at h1
      cases h1
      exact hp
    · rw [if_neg hp] at h1
      cases h1
  · intro hp
    exact ⟨c, h c hp, if_pos hp⟩
theorem setOf_lt (P : Nat → Prop) (N : Nat) : setOf P N < 2 ^ N := by
  unfold setOf
  refine orS_lt _ N (fun k c hk h1 => ?_)
  by_cases hp : P k
  · rw [if_pos hp] at h1
    cases h1
    exact hk
  · rw [if_neg hp] at h1
    cases h1
noncomputable def im (d w : Nat) (T : Nat → Nat) (n s : Nat) : Nat := setOf (Img d w T n s) (d ^ n)
theorem Img_lt {d w n s c : Nat} {T : Nat → Nat} (hd : 0 < d) (hT : ∀ p, p < d ^ w → T p < d) (h : Img d w T n s c) : c < d ^ n := by
  obtain ⟨x, _, rfl⟩ := h
  exact apl_lt hd hT
theorem im_bit {d w n s : Nat} {T : Nat → Nat} (hd : 0 < d) (hT : ∀ p, p < d ^ w → T p < d) (c : Nat) : (im d w T n s).testBit c = true ↔ Img d w T n s c := setOf_bit (fun c h => Img_lt hd hT h) c
theorem im_lt (d w : Nat) (T : Nat → Nat) (n s : Nat) : im d w T n s < 2 ^ (d ^ n) := setOf_lt _ _
theorem images_i {d k w s n0 : Nat} {T : Nat → Nat} {g : xG} {a : xA} (hB : Bas d g a) (hO : Opr d k w T g a) (hn0 : n0 ≤ 3) (hs : s < 2 ^ (d ^ n0)) :
    ∃ g' a', f_X0_images k g a (nI n0) (nI s) = some (nI (im d w T n0 s), g', a') ∧ Sm [2, 3] [8, 9] g a g' a' := by
  obtain ⟨x, g', a', e1, e2, e3, e4⟩ := images_c hB hO hn0 hs
  have hd : 0 < d := by have := hB.1; omega
  have : x = im d w T n0 s := set_ext fun i => (e3 i).trans (im_bit hd (fun p hp => (hO.2.2.2.2 p hp).2) i).symm
  subst this
  exact ⟨g', a', e1, e4⟩
theorem come_i {g : xG} {a : xA} {d op w n0 s : Nat} {T : Nat → Nat} (hd : d = 2 ∨ d = 3) (h0 : g 0 = nI d) (hn0 : n0 ≤ 3) (hs : s < 2 ^ (d ^ n0)) (hO : OpM d op w T a) :
    ∃ a', f_X12_come g a (nI op) (nI w) (nI n0) (nI s) = some (nI (im d w T n0 s), a') ∧ Sm [] [11] g a g a' := by
  obtain ⟨x, a', e1, e2, e3, e4⟩ := comeM hd h0 hn0 hs hO
  have : x = im d w T n0 s := set_ext fun i => (e3 i).trans (im_bit (by omega) (fun p hp => (hO.2.2.2 p hp).2) i).symm
  subst this
  exact ⟨a', e1, e4⟩
theorem bdiff_0 {x s : Nat} : bdiff x s = 0 ↔ ∀ i, x.testBit i = true → s.testBit i = true := by
  constructor
  · intro h i hi
    have := bdiff_bit x s i
    rw [h, Nat.zero_testBit, hi] at this
    cases hb : s.testBit i
    · rw [hb] at this
      cases this
    · rfl
  · intro h
    refine set_ext fun i => ?_
    rw [bdiff_bit, Nat.zero_testBit]
    cases hx : x.testBit i with
    | false => simp
    | true => simp [h i hx]
theorem ne0_bit {x : Nat} (h : x ≠ 0) : ∃ i, x.testBit i = true := by
  refine Classical.byContradiction fun hn => h ?_
  refine Nat.eq_of_testBit_eq fun i => ?_
  rw [Nat.zero_testBit]
  cases hx : x.testBit i
  · rfl
  · exact absurd ⟨i, hx⟩ hn
theorem strays_i {d k w s n0 : Nat} {T : Nat → Nat} {g : xG} {a : xA} (hB : Bas d g a) (hO : Opr d k w T g a) (hn0 : n0 ≤ 3) (hs : s < 2 ^ (d ^ n0)) :
    ∃ g' a', f_X0_strays k g a (nI n0) (nI s) = some (nI (bdiff (im d w T n0 s) s), g', a') ∧ Sm [2, 3] [8, 9] g a g' a' := by
  have hd : 0 < d := by have := hB.1; omega
  have h27 := pw3 hB.1 hn0
  have e1 : ((1 : Int32) <<< ((t_X4_power g a (nI n0)) &&& 31)) - 1 = nI (2 ^ (d ^ n0) - 1) := by
    rw [power_B hB (by omega), shl_nI (by omega)]
    exact pk_sub (b := 1) (Nat.two_pow_pos _)
  have hsl : s < 2 ^ 31 := Nat.lt_of_lt_of_le hs (Nat.pow_le_pow_right (by decide) (by omega))
  have hfl : 2 ^ (d ^ n0) - 1 < 2 ^ 31 := Nat.lt_of_lt_of_le (Nat.sub_lt (Nat.two_pow_pos _) (by decide)) (Nat.pow_le_pow_right (by decide) (by omega))
  unfold f_X0_strays
  rw [e1]
  by_cases h : s = 2 ^ (d ^ n0) - 1
  · have hz : bdiff (im d w T n0 s) s = 0 := bdiff_0.mpr fun i hi => by
      have hi2 := bit_lt (im_lt d w T n0 s) hi
      rw [h, Nat.testBit_two_pow_sub_one]
      exact decide_eq_true hi2
    refine ⟨g, a, ?_, Sm_rfl⟩
    rw [if_pos (by rw [← h]), hz]
    rfl
  · obtain ⟨g', a', e2, e3⟩ := images_i hB hO hn0 hs
    refine ⟨g', a', ?_, e3⟩
    rw [if_neg (fun e => h ((nI_eq hsl hfl).mp e)), e2, Option.bind_some]
    show some (nI (im d w T n0 s) &&& (nI s ^^^ (-1)), g', a') = _
    rw [nI_diff]
theorem keep_i {g : xG} {a : xA} {d op w n0 s r : Nat} {T : Nat → Nat} (hd : d = 2 ∨ d = 3) (h0 : g 0 = nI d) (hn0 : n0 ≤ 3) (hs : s < 2 ^ (d ^ n0)) (hO : OpM d op w T a) (hr : r < 8) (h1 : a 1 r = nI n0) (h2 : a 2 r = nI s) :
    ∃ a', f_X12_doesKeep g a (nI op) (nI w) (nI r) = some (nI (if bdiff (im d w T n0 s) s = 0 then 1 else 0), a') ∧ Sm [] [11] g a g a' := by
  obtain ⟨a', e1, e2⟩ := come_i hd h0 hn0 hs hO
  refine ⟨a', ?_, e2⟩
  have h27 := pw3 hd hn0
  have hbl : bdiff (im d w T n0 s) s < 2 ^ 31 := Nat.lt_of_lt_of_le (bdiff_le _ _ (im_lt d w T n0 s)) (Nat.pow_le_pow_right (by decide) (by omega))
  unfold f_X12_doesKeep
  rw [ck_t (inB_t hr (by decide)), ck_t (inB_t hr (by decide)), nI_clamp (by omega), h1, h2, e1, Option.bind_some, ck_t (inB_t hr (by decide))]
  have hx : nI (im d w T n0 s) &&& (a' 2 r ^^^ (-1)) = nI (bdiff (im d w T n0 s) s) := by rw [(congrFun (e2.2 2 (by decide)) r).trans h2, nI_diff]
  by_cases h : bdiff (im d w T n0 s) s = 0
  · rw [if_pos h, if_pos (by show nI (im d w T n0 s) &&& (a' 2 r ^^^ (-1)) = 0; rw [hx, h]; rfl)]
    rfl
  · rw [if_neg h, if_neg (by show ¬ nI (im d w T n0 s) &&& (a' 2 r ^^^ (-1)) = 0; rw [hx]; exact nI_ne0 (by omega) hbl)]
    rfl
theorem both_0 {gm : xG} {am : xA} {K R : Nat} {v1 v2 : Int32} (h2 : gm 2 = nI K) (h1 : gm 1 = nI R) (hK : K < 2 ^ 30) (h : (v1 < 0 ∨ nI K - 1 < v1) ∨ ((∃ k, k < K ∧ v1 = nI k) ∧ (v2 < 0 ∨ nI R - 1 < v2))) : f_X12_areBoth gm am v1 v2 = some (0, upd gm 8 1) := by
  have e : f_X12_areBoth_22 am gm 1 = some (0, upd gm 8 1) := by
    unfold f_X12_areBoth_22
    rw [if_neg (by rw [upd_s]; decide)]
  unfold f_X12_areBoth
  rcases h with h | ⟨⟨k, hk, rfl⟩, h⟩
  · rw [isOp_0 h2 h, Option.bind_some, if_pos rfl, e]
  · rw [isOp_1 h2 hk hK, Option.bind_some, if_neg (by decide), isRel_0 h1 h, Option.bind_some, if_pos rfl, e]
theorem both_1 {gm : xG} {am : xA} {K R k r : Nat} (h2 : gm 2 = nI K) (h1 : gm 1 = nI R) (hK : K < 2 ^ 30) (hR : R < 2 ^ 30) (hk : k < K) (hr : r < R) : f_X12_areBoth gm am (nI k) (nI r) = some (1, upd gm 8 0) := by
  have e : f_X12_areBoth_22 am gm 0 = some (1, upd gm 8 0) := by
    unfold f_X12_areBoth_22
    rw [if_pos (upd_s ..)]
  unfold f_X12_areBoth
  rw [isOp_1 h2 hk hK, Option.bind_some, if_neg (by decide), isRel_1 h1 hr hR, Option.bind_some, if_neg (by decide), e]
/-- an operation and a relation, as both sides ask for them -/
theorem two_ {d K R : Nat} {pl tu ar : Nat → Nat} {an : Nat → Nat → Nat} {g : xG} {a : xA} {gm : xG} {am : xA} (hK : CK d K ar an g a gm am) (hR : CR d R pl tu g a gm am) (v1 v2 : Int32) :
    (f_X12_areBoth gm am v1 v2 = some (0, upd gm 8 1) ∧ (getF (g 4) v1 = none ∨ ∃ k, getF (g 4) v1 = some k ∧ t_X10_isThere g a v2 = 0)) ∨
    ∃ k r, k < K ∧ r < R ∧ v1 = nI k ∧ v2 = nI r ∧ f_X12_areBoth gm am v1 v2 = some (1, upd gm 8 0) ∧ getF (g 4) v1 = some k ∧ ¬ t_X10_isThere g a v2 = 0 := by
  have hK6 := hK.1
  have hR8 := hR.1
  rcases ix3 v1 (R := K) (by omega) with ⟨q1, q2⟩ | ⟨k, hk, rfl⟩
  · exact Or.inl ⟨both_0 hK.2.2.1 hR.2.2.1 (by omega) (Or.inl q2), Or.inl (by rw [hK.2.1]; exact getF_0 q1)⟩
  · rcases ix3 v2 (R := R) (by omega) with ⟨q1, q2⟩ | ⟨r, hr, rfl⟩
    · exact Or.inl ⟨both_0 hK.2.2.1 hR.2.2.1 (by omega) (Or.inr ⟨⟨k, hk, rfl⟩, q2⟩), Or.inr ⟨k, by rw [hK.2.1]; exact getF_1 hk hK6, there_0 hR.2.1 q1⟩⟩
    · exact Or.inr ⟨k, r, hk, hr, rfl, rfl, both_1 hK.2.2.1 hR.2.2.1 (by omega) (by omega) hk hr, by rw [hK.2.1]; exact getF_1 hk hK6, by rw [there_1 hR.2.1 hr (by omega)]; decide⟩
theorem ob1_keeps : ob_keeps Cpl := by
  intro g a gm am v1 v2 h
  have hC := h
  obtain ⟨d, R, K, T, V, C, pl, tu, ar, ch, cr, an, cv, hB, h0, hR, hK, hT, hI⟩ := h
  have hd := hB.1
  rcases two_ hK hR v1 v2 with ⟨e1, e2⟩ | ⟨k, r, hk, hr, rfl, rfl, e1, e2, e3⟩
  · refine Or.inr ⟨(3, g, a), (0, upd gm 8 1, am), ?_, rfl, ?_, thr_8, Cpl_8 hC⟩
    · unfold f_X11_keeps
      rcases e2 with e2 | ⟨k, e2, e3⟩
      · rw [e2, om_n]; rfl
      · rw [e2, om_s, if_pos e3]; rfl
    · unfold f_X12_keeps
      rw [e1, Option.bind_some, if_pos rfl]
  obtain ⟨r1, r2, r3, r4, r5, r6, r7⟩ := hR.2.2.2.2.2 r hr
  obtain ⟨o1, o2, o3⟩ := hK.2.2.2 k hk
  have hR8 := hR.1
  have hK6 := hK.1
  have h9 := pw9 hd r6
  obtain ⟨g', a', s1, s2⟩ := strays_i (n0 := pl r) hB o1 (by omega) r7
  obtain ⟨am', k1, k2⟩ := keep_i (g := upd gm 8 0) hd ((upd_n _ _ (by decide)).trans h0) (by omega) r7 o2 (r := r) (by omega) r2 r4
  have hbl : bdiff (im d (ar k) (an k) (pl r) (tu r)) (tu r) < 2 ^ 31 := Nat.lt_of_lt_of_le (bdiff_le _ _ (im_lt ..)) (Nat.pow_le_pow_right (by decide) (by omega))
  have hfin : Cpl g' a' (upd gm 8 0) am' := Cpl_fr hC (Sm_mo s2 (by decide) (by decide)) (SmM_tr SmM_8 (SmM_of k2))
  refine Or.inl ⟨(nI (if bdiff (im d (ar k) (an k) (pl r) (tu r)) (tu r) = 0 then 1 else 0), g', a'), (nI (if bdiff (im d (ar k) (an k) (pl r) (tu r)) (tu r) = 0 then 1 else 0), upd gm 8 0, am'), ?_, ?_, thr_8, rfl, hfin⟩
  · unfold f_X11_keeps
    rw [e2, om_s, if_neg e3, plOf (by omega) r1, tuOf (by omega) r3, s1, Option.bind_some]
    by_cases h : bdiff (im d (ar k) (an k) (pl r) (tu r)) (tu r) = 0
    · rw [if_pos h, h, if_pos (show nI 0 = 0 from rfl)]
      rfl
    · rw [if_neg h, if_neg (nI_ne0 (by omega) hbl)]
      rfl
  · unfold f_X12_keeps
    rw [e1, Option.bind_some, if_neg (show ¬ (1 : Int32) = 0 by decide), ck_t (inB_t (by omega) (by decide)), nI_clamp (by omega), o3, k1, Option.bind_some]
    by_cases h : bdiff (im d (ar k) (an k) (pl r) (tu r)) (tu r) = 0
    · rw [if_pos h, if_neg (show ¬ nI 1 = 0 by decide)]
      rfl
    · rw [if_neg h, if_pos (show nI 0 = 0 from rfl)]
      rfl
/-- the lowest bit, from p on -/
def lo (y : Nat) : Nat → Nat → Int32
  | _, 0 => -1
  | p, r + 1 => if y.testBit p then nI p else lo y (p + 1) r
theorem lo_more {y : Nat} : ∀ (r p m : Nat), (∀ i, p + r ≤ i → y.testBit i = false) → lo y p (r + m) = lo y p r
  | 0, p, m, h => by
    induction m generalizing p with
    | zero => rfl
    | succ m ih =>
      show (if y.testBit p then nI p else lo y (p + 1) (0 + m)) = -1
      rw [h p (by omega), if_neg (by decide), ih (p + 1) (fun i hi => h i (by omega))]
      rfl
  | r + 1, p, m, h => by
    rw [show r + 1 + m = (r + m) + 1 by omega]
    show (if y.testBit p then nI p else lo y (p + 1) (r + m)) = if y.testBit p then nI p else lo y (p + 1) r
    rw [lo_more r (p + 1) m (fun i hi => h i (by omega))]
theorem low_loop {g : xG} {a : xA} {y : Nat} (hy : y < 2 ^ 31) : ∀ (r p n : Nat), p + r = 32 → r < n → f_X11_lowestOf_2 g a n (nI y) (nI p) = some (lo y p r)
  | 0, p, n, hp, hn => by
    obtain ⟨n, rfl⟩ := pos_of hn
    rw [e_X11_lowestOf_2, if_pos (show (32 : Int32) ≤ nI p from nI_le (a := 32) (by omega) (by omega))]
    rfl
  | r + 1, p, n, hp, hn => by
    obtain ⟨n, rfl⟩ := pos_of hn
    rw [e_X11_lowestOf_2, if_neg (show ¬ (32 : Int32) ≤ nI p from nI_ge (a := p) (b := 32) (by omega) (by decide)), isIn_nI (by omega) hy]
    unfold lo
    cases hb : y.testBit p with
    | false =>
      rw [if_pos (by decide), if_neg (by decide), show nI p + 1 = nI (p + 1) from nI_1 p]
      exact low_loop hy r (p + 1) n (by omega) (by omega)
    | true => rw [if_neg (by decide), if_pos rfl]
theorem br_loop {g : xG} {a : xA} {y : Nat} (hy : y < 2 ^ 31) : ∀ (r p n : Nat), p + r = 9 → r < n → f_X12_breaks_47 n g a (nI y) (nI p) = some (lo y p r, g, a)
  | 0, p, n, hp, hn => by
    obtain ⟨n, rfl⟩ := pos_of hn
    rw [e_X12_breaks_47, if_pos (show (9 : Int32) ≤ nI p from nI_le (a := 9) (by omega) (by omega))]
    rfl
  | r + 1, p, n, hp, hn => by
    obtain ⟨n, rfl⟩ := pos_of hn
    rw [e_X12_breaks_47, if_neg (show ¬ (9 : Int32) ≤ nI p from nI_ge (a := p) (b := 9) (by omega) (by decide)), isInM (by omega) hy]
    unfold lo
    cases hb : y.testBit p with
    | false =>
      rw [if_pos (by decide), if_neg (by decide), show nI p + 1 = nI (p + 1) from nI_1 p]
      exact br_loop hy r (p + 1) n (by omega) (by omega)
    | true => rw [if_neg (by decide), if_pos rfl]
theorem bit_ge {x n i : Nat} (h : x < 2 ^ n) (hi : n ≤ i) : x.testBit i = false := Nat.testBit_lt_two_pow (Nat.lt_of_lt_of_le h (Nat.pow_le_pow_right (by decide) hi))
theorem ob1_breaks : ob_breaks Cpl := by
  intro g a gm am v1 v2 h
  have hC := h
  obtain ⟨d, R, K, T, V, C, pl, tu, ar, ch, cr, an, cv, hB, h0, hR, hK, hT, hI⟩ := h
  have hd := hB.1
  rcases two_ hK hR v1 v2 with ⟨e1, e2⟩ | ⟨k, r, hk, hr, rfl, rfl, e1, e2, e3⟩
  · refine Or.inr ⟨(3, g, a), (0, upd gm 8 1, am), ?_, rfl, ?_, thr_8, Cpl_8 hC⟩
    · unfold f_X11_breaks
      rcases e2 with e2 | ⟨k, e2, e3⟩
      · rw [e2, om_n]; rfl
      · rw [e2, om_s, if_pos e3]; rfl
    · unfold f_X12_breaks
      rw [e1, Option.bind_some, if_pos rfl]
  obtain ⟨r1, r2, r3, r4, r5, r6, r7⟩ := hR.2.2.2.2.2 r hr
  obtain ⟨o1, o2, o3⟩ := hK.2.2.2 k hk
  have hR8 := hR.1
  have hK6 := hK.1
  have h9 := pw9 hd r6
  obtain ⟨g', a', s1, s2⟩ := strays_i (n0 := pl r) hB o1 (by omega) r7
  obtain ⟨am', k1, k2⟩ := come_i (g := upd gm 8 0) hd ((upd_n _ _ (by decide)).trans h0) (by omega) r7 o2
  have hb9 : bdiff (im d (ar k) (an k) (pl r) (tu r)) (tu r) < 2 ^ 9 := Nat.lt_of_lt_of_le (bdiff_le _ _ (im_lt ..)) (Nat.pow_le_pow_right (by decide) (by omega))
  have hbl : bdiff (im d (ar k) (an k) (pl r) (tu r)) (tu r) < 2 ^ 31 := by omega
  have hfin : Cpl g' a' (upd gm 8 0) am' := Cpl_fr hC (Sm_mo s2 (by decide) (by decide)) (SmM_tr SmM_8 (SmM_of k2))
  have hlo := lo_more (y := bdiff (im d (ar k) (an k) (pl r) (tu r)) (tu r)) 9 0 23 (fun i hi => bit_ge hb9 (by omega))
  refine Or.inl ⟨(lo (bdiff (im d (ar k) (an k) (pl r) (tu r)) (tu r)) 0 9, g', a'), (lo (bdiff (im d (ar k) (an k) (pl r) (tu r)) (tu r)) 0 9, upd gm 8 0, am'), ?_, ?_, thr_8, rfl, hfin⟩
  · unfold f_X11_breaks
    rw [e2, om_s, if_neg e3, plOf (by omega) r1, tuOf (by omega) r3, s1, Option.bind_some]
    dsimp only
    unfold f_X11_lowestOf
    rw [z0, low_loop hbl 32 0 fu (by omega) (fu_gt (by omega)), Option.bind_some, ← hlo]
  · unfold f_X12_breaks
    rw [e1, Option.bind_some, if_neg (show ¬ (1 : Int32) = 0 by decide), ck_t (inB_t (by omega) (by decide)), ck_t (inB_t (by omega) (by decide)), ck_t (inB_t (by omega) (by decide)), nI_clamp (by omega), nI_clamp (by omega), o3, r2, r4, k1, Option.bind_some, ck_t (inB_t (by omega) (by decide))]
    dsimp only
    rw [(congrFun (k2.2 2 (by decide)) r).trans r4, nI_diff, z0]
    exact br_loop hbl 9 0 fu (by omega) (fu_gt (by omega))
theorem pc_mono {s t : Nat} (h : ∀ i, s.testBit i = true → t.testBit i = true) : ∀ n, pc s n ≤ pc t n
  | 0 => Nat.le_refl _
  | n + 1 => by
    have := pc_mono h n
    unfold pc
    by_cases hs : s.testBit n = true
    · rw [if_pos hs, if_pos (h n hs)]
      omega
    · rw [if_neg hs]
      omega
theorem pc_lt {s t i : Nat} (h : ∀ i, s.testBit i = true → t.testBit i = true) (h1 : s.testBit i = false) (h2 : t.testBit i = true) : ∀ n, i < n → pc s n < pc t n
  | 0, hn => by omega
  | n + 1, hn => by
    unfold pc
    by_cases he : i = n
    · subst he
      rw [h1, h2, if_neg (by decide), if_pos rfl]
      have := pc_mono h i
      omega
    · have := pc_lt h h1 h2 n (by omega)
      by_cases hs : s.testBit n = true
      · rw [if_pos hs, if_pos (h n hs)]
        omega
      · rw [if_neg hs]
        omega
theorem or_bd (s x : Nat) : s ||| bdiff x s = s ||| x := by
  refine set_ext fun i => ?_
  rw [Nat.testBit_or, Nat.testBit_or, bdiff_bit]
  cases s.testBit i <;> cases x.testBit i <;> simp
theorem or_l {s x i : Nat} (h : s.testBit i = true) : (s ||| x).testBit i = true := by rw [Nat.testBit_or, h]; rfl
theorem or_r {s x i : Nat} (h : x.testBit i = true) : (s ||| x).testBit i = true := by rw [Nat.testBit_or, h, Bool.or_true]
theorem bd_grow {s x n : Nat} (hx : x < 2 ^ n) (h : bdiff x s ≠ 0) : pc s n < pc (s ||| x) n := by
  obtain ⟨i, hi⟩ := ne0_bit h
  rw [bdiff_bit] at hi
  have h1 : x.testBit i = true := by
    cases hb : x.testBit i
    · rw [hb] at hi; cases hi
    · rfl
  have h2 : s.testBit i = false := by
    cases hb : s.testBit i
    · rfl
    · rw [hb, h1] at hi; cases hi
  exact pc_lt (fun j hj => or_l hj) h2 (or_r h1) n (bit_lt hx h1)
theorem clo {d k w n0 N : Nat} {T : Nat → Nat} (hd : d = 2 ∨ d = 3) (hn0 : n0 ≤ 3) (hN : d ^ n0 = N) (hk6 : k < 6) : ∀ (r s : Nat), N - pc s N ≤ r → s < 2 ^ N → ∃ z,
    (∀ (n x5 : Nat) (g : xG) (a : xA), r < n → x5 + r ≤ 27 → Bas d g a → Opr d k w T g a → ∃ g' a', f_X0_closure_6 k n g a (nI n0) (nI s) (nI x5) = some (nI z, g', a') ∧ Sm [2, 3] [8, 9] g a g' a') ∧
    (∀ (n : Nat) (g : xG) (a : xA), r < n → g 0 = nI d → OpM d k w T a → a 3 k = nI w → ∃ a', f_X12_closes_19 g n a (nI k) (nI n0) (nI s) (nI (im d w T n0 s)) = some (nI z, a') ∧ Sm [] [11] g a g a')
  | r, s, hr, hs => by
    have h27 := pw3 hd hn0
    rw [hN] at h27
    have hbl : bdiff (im d w T n0 s) s < 2 ^ N := bdiff_le _ _ (hN ▸ im_lt d w T n0 s)
    have hbl2 : bdiff (im d w T n0 s) s < 2 ^ 31 := Nat.lt_of_lt_of_le hbl (Nat.pow_le_pow_right (by decide) (by omega))
    by_cases h : bdiff (im d w T n0 s) s = 0
    · refine ⟨s, fun n x5 g a hn hx hB hO => ?_, fun n g a hn h0 hO h3 => ?_⟩
      · obtain ⟨n, rfl⟩ := pos_of hn
        obtain ⟨g', a', e1, e2⟩ := strays_i hB hO hn0 (s := s) (by rw [hN]; exact hs)
        refine ⟨g', a', ?_, e2⟩
        rw [e_X0_closure_6, if_neg (show ¬ (27 : Int32) < nI x5 from nI_nlt (a := 27) (b := x5) (by omega) (by decide)), e1, Option.bind_some, if_pos (by rw [h]; rfl)]
      · obtain ⟨n, rfl⟩ := pos_of hn
        refine ⟨a, ?_, Sm_rfl⟩
        rw [e_X12_closes_19, nI_diff, if_pos (by rw [h]; rfl)]
    · have hg := bd_grow (n := N) (hN ▸ im_lt d w T n0 s) h
      have hle := pc_le (s ||| im d w T n0 s) N
      obtain ⟨r, rfl⟩ : ∃ r', r = r' + 1 := ⟨r - 1, by omega⟩
      have hs2 : s ||| im d w T n0 s < 2 ^ N := Nat.or_lt_two_pow hs (hN ▸ im_lt d w T n0 s)
      obtain ⟨z, hz1, hz2⟩ := clo (T := T) (w := w) hd hn0 hN hk6 r (s ||| im d w T n0 s) (by omega) hs2
      refine ⟨z, fun n x5 g a hn hx hB hO => ?_, fun n g a hn h0 hO h3 => ?_⟩
      · obtain ⟨n, rfl⟩ := pos_of hn
        obtain ⟨g', a', e1, e2⟩ := strays_i hB hO hn0 (s := s) (by rw [hN]; exact hs)
        obtain ⟨g2, a2, e3, e4⟩ := hz1 n (x5 + 1) g' a' (by omega) (by omega) (Bas_sm hB e2) (Opr_sm hO e2)
        refine ⟨g2, a2, ?_, Sm_tr e2 e4⟩
        rw [e_X0_closure_6, if_neg (show ¬ (27 : Int32) < nI x5 from nI_nlt (a := 27) (b := x5) (by omega) (by decide)), e1, Option.bind_some, if_neg (nI_ne0 (by omega) hbl2)]
        dsimp only
        rw [nI_or, or_bd, show nI x5 + 1 = nI (x5 + 1) from nI_1 x5, e3]
      · obtain ⟨n, rfl⟩ := pos_of hn
        obtain ⟨a', e1, e2⟩ := come_i hd h0 hn0 (s := s ||| im d w T n0 s) (by rw [hN]; exact hs2) hO
        obtain ⟨a2, e3, e4⟩ := hz2 n g a' (by omega) h0 (OpM_sm hO e2) ((congrFun (e2.2 3 (by decide)) k).trans h3)
        refine ⟨a2, ?_, Sm_tr e2 e4⟩
        rw [e_X12_closes_19, nI_diff, if_neg (nI_ne0 (by omega) hbl2), ck_t (inB_t hk6 (by decide)), nI_clamp (by omega), h3, nI_or, e1, Option.bind_some]
        exact e3
theorem ob1_closed : ob_closed Cpl := by
  intro g a gm am v1 v2 h
  have hC := h
  obtain ⟨d, R, K, T, V, C, pl, tu, ar, ch, cr, an, cv, hB, h0, hR, hK, hT, hI⟩ := h
  have hd := hB.1
  rcases two_ hK hR v1 v2 with ⟨e1, e2⟩ | ⟨k, r, hk, hr, rfl, rfl, e1, e2, e3⟩
  · refine Or.inr ⟨(3, g, a), (0, upd gm 8 1, am), ?_, rfl, ?_, thr_8, Cpl_8 hC⟩
    · unfold f_X11_closed
      rcases e2 with e2 | ⟨k, e2, e3⟩
      · rw [e2, om_n]; rfl
      · rw [e2, om_s, if_pos e3]; rfl
    · unfold f_X12_closed
      rw [e1, Option.bind_some, if_pos rfl]
  obtain ⟨r1, r2, r3, r4, r5, r6, r7⟩ := hR.2.2.2.2.2 r hr
  obtain ⟨o1, o2, o3⟩ := hK.2.2.2 k hk
  have hR8 := hR.1
  have hK6 := hK.1
  have h9 := pw9 hd r6
  obtain ⟨z, hz1, hz2⟩ := clo (T := an k) (w := ar k) (k := k) (n0 := pl r) hd (by omega) rfl (by omega) (d ^ pl r) (tu r) (by omega) r7
  obtain ⟨g', a', s1, s2⟩ := hz1 fu 0 g a (fu_gt (by omega)) (by omega) hB o1
  have h0' : upd gm 8 0 0 = nI d := (upd_n _ _ (by decide)).trans h0
  obtain ⟨am1, k1, k2⟩ := come_i (g := upd gm 8 0) hd h0' (n0 := pl r) (by omega) r7 o2
  obtain ⟨am', k3, k4⟩ := hz2 fu (upd gm 8 0) am1 (fu_gt (by omega)) h0' (OpM_sm o2 k2) ((congrFun (k2.2 3 (by decide)) k).trans o3)
  have hfin : Cpl g' a' (upd gm 8 0) am' := Cpl_fr hC (Sm_mo s2 (by decide) (by decide)) (SmM_tr SmM_8 (SmM_of (Sm_tr k2 k4)))
  refine Or.inl ⟨(nI z, g', a'), (nI z, upd gm 8 0, am'), ?_, ?_, thr_8, rfl, hfin⟩
  · unfold f_X11_closed
    rw [e2, om_s, if_neg e3, plOf (by omega) r1, tuOf (by omega) r3]
    unfold f_X0_closure
    rw [z0, s1, Option.bind_some]
  · unfold f_X12_closed
    rw [e1, Option.bind_some, if_neg (show ¬ (1 : Int32) = 0 by decide), ck_t (inB_t (by omega) (by decide)), ck_t (inB_t (by omega) (by decide)), nI_clamp (by omega), r2, r4]
    unfold f_X12_closes
    rw [ck_t (inB_t (by omega) (by decide)), nI_clamp (by omega), o3, k1, Option.bind_some]
    dsimp only
    rw [k3, Option.bind_some]
