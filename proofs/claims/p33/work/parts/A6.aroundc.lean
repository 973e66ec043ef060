/-! around, the call. -/
theorem aroundX {d R r w : Nat} {pl tu mem : Nat → Nat} {g : xG} {a : xA} (hB : Bas d g a) (hR : RX d R pl tu g a) (hr : r < R) (hw : w = pc (tu r) 31) (hw1 : 1 ≤ w) (hw3 : w ≤ 3) (hm : ∀ t, t < 31 → (tu r).testBit t = true → mem (pc (tu r) t) = t) :
    ∃ (X : Nat) (g' : xG) (a' : xA), f_X3_leastAround g a (nI r) = some (nI X, g', a') ∧ Sm [2, 3, 5] [8, 9, 15, 16, 17, 18] g a g' a' ∧ ∀ i, X.testBit i = true ↔ i < d ^ pl r ∧ AR d R w (pl r) r pl tu mem i := by
  have hd := hB.1
  have hR8 := hR.1
  have hRR : ∀ r, r < R → 1 ≤ pl r ∧ pl r + d ≤ 5 := fun r hr => ⟨(hR.2.2 r hr).2.2.1, (hR.2.2 r hr).2.2.2.1⟩
  obtain ⟨r1, r3, r5, r6, r7⟩ := hR.2.2 r hr
  have h9 := pw9 hd r6
  have hT9 := TC_lt hd r7 r6
  have hp27 : pc (tu r) 27 = w := by rw [hw]; exact (pc_up hT9 (by decide)).trans (pc_up hT9 (by decide)).symm
  obtain ⟨g1, a1, e1, e2, e3, e4, e5⟩ := beginS (w := w) (lo := r) (lv := nI r) hw1 hw3 (fun k hk => nI_eqs (by omega) (by omega)) hB hR
  have hco := co5 (g := g) (a := a) hB hT9 hm 27 0 fu (fu_gt (by omega)) (Nat.le_refl _)
  rw [show nm d (fun q => sp d (mem (pc (tu r) 27 + q))) 0 = 0 from rfl, hp27, Nat.add_zero] at hco
  have hco' : f_X3_columnsOf g a (nI (tu r)) = some (nI (nm d (fun q => sp d (mem q)) w)) := by
    unfold f_X3_columnsOf
    rw [show (26 : Int32) = nI 27 + -nI 1 by decide]
    exact hco
  obtain ⟨X, a2, k1, k2, k3⟩ := la57 (R := R) (r := r) (pl := pl) (tu := tu) (mem := mem) (g := g1) hw3 r5 r6 hR8 hRR (d ^ pl r) 0 fu a1 0 (by omega) (fu_gt (by omega)) (Bas_sm hB e2) e3 e4 (Nat.two_pow_pos _) (fun i => by
    rw [Nat.zero_testBit]
    exact ⟨fun q => (by cases q), fun q => by omega⟩)
  refine ⟨X, g1, a2, ?_, Sm_tr (Sm_mo e2 (by decide) (by decide)) (Sm_mo k2 (by decide) (by decide)), k3⟩
  unfold f_X3_leastAround
  rw [tuOf (by omega) r3, bc9 (by omega), ← hw, if_pos (show (1 : Int32) ≤ nI w from nI_le (a := 1) hw1 (by omega)), hco', Option.bind_some, e1, Option.bind_some, plOf (by omega) r1]
  exact k1
theorem ob1_around : ob_around Cpl := by
  intro g a gm am v1 h
  have hC := h
  obtain ⟨d, R, K, T, V, C, pl, tu, ar, ch, cr, an, cv, hB, h0, hR, hK, hT, hI⟩ := h
  have hd := hB.1
  have hR8 := hR.1
  have hX := RX_of hR
  have e14 : ∀ x1 : Int32, f_X12_around_14 gm am x1 1 = some (0, upd gm 8 1, am) := fun x1 => by
    unfold f_X12_around_14
    rw [if_neg (by rw [upd_s]; decide)]
  rcases ix3 v1 (R := R) (by omega) with ⟨q1, q2⟩ | ⟨r, hr, rfl⟩
  · refine Or.inr (Or.inl ⟨(3, g, a), (0, upd gm 8 1, am), ?_, rfl, ?_, thr_8, Cpl_8 hC⟩)
    · unfold f_X11_around
      rw [if_pos (there_0 hR.2.1 q1)]
    · unfold f_X12_around
      rw [isRel_0 hR.2.2.1 q2, Option.bind_some, if_pos rfl, e14]
  obtain ⟨r1, r2, r3, r4, r5, r6, r7⟩ := hR.2.2.2.2.2 r hr
  have hth : ¬ t_X10_isThere g a (nI r) = 0 := by rw [there_1 hR.2.1 hr (by omega)]; decide
  have h9 := pw9 hd r6
  have hT9 := TC_lt hd r7 r6
  obtain ⟨w, hw⟩ : ∃ w, w = pc (tu r) 31 := ⟨_, rfl⟩
  have hw31 : w ≤ 31 := by rw [hw]; exact pc_le _ _
  obtain ⟨lim, hlim⟩ : ∃ lim : Nat, lim = if d = 2 then 3 else 2 := ⟨_, rfl⟩
  have hl3 : lim ≤ 3 := by rw [hlim]; split <;> decide
  have ex : f_X11_around g a (nI r) = if w ≤ lim then Option.bind (f_X3_leastAround g a (nI r)) (fun u4 => some (.inr (u4.1, u4.2.1, u4.2.2))) else some (.inl (2, g, a)) := by
    have e48 : ∀ s0 : Nat, s0 < 4 → f_X11_around_48 g a (nI r) (nI s0) (nI w) = if w ≤ s0 then Option.bind (f_X3_leastAround g a (nI r)) (fun u4 => some (.inr (u4.1, u4.2.1, u4.2.2))) else some (.inl (2, g, a)) := fun s0 hs => by
      unfold f_X11_around_48
      by_cases h : w ≤ s0
      · rw [if_pos h, if_pos (nI_le h (by omega))]
      · rw [if_neg h, if_neg (nI_ge (by omega) (by omega))]
    unfold f_X11_around
    rw [if_neg hth, hB.2.1, tuOf (by omega) r3, bc9 (by omega), ← hw, hlim]
    rcases hd with rfl | rfl
    · rw [if_pos (show nI 2 = 2 from rfl), if_pos rfl]
      exact e48 3 (by decide)
    · rw [if_neg (show ¬ nI 3 = 2 by decide), if_neg (show ¬ (3 = 2) by decide)]
      exact e48 2 (by decide)
  have em : f_X12_around gm am (nI r) = if w ≤ lim then f_X12_around_59 (upd gm 8 0) am (nI r) (nI w) 0 else f_X12_around_59 (upd gm 8 0) am (nI r) (nI w) 2 := by
    have e51 : ∀ s0 : Nat, s0 < 4 → f_X12_around_51 (upd gm 8 0) am (nI r) (nI w) (nI s0) (nI w) = if w ≤ s0 then f_X12_around_59 (upd gm 8 0) am (nI r) (nI w) 0 else f_X12_around_59 (upd gm 8 0) am (nI r) (nI w) 2 := fun s0 hs => by
      unfold f_X12_around_51
      by_cases h : w ≤ s0
      · rw [if_pos h, if_pos (nI_le h (by omega))]
      · rw [if_neg h, if_neg (nI_ge (by omega) (by omega))]
    unfold f_X12_around
    rw [isRel_1 hR.2.2.1 hr (by omega), Option.bind_some, if_neg (by decide)]
    unfold f_X12_around_14
    rw [if_pos (le00 (by decide)), ck_t (inB_t (by omega) (by decide)), nI_clamp (by omega), r4, cntM (by omega), Option.bind_some, ← hw, show upd gm 8 0 0 = nI d from (upd_n _ _ (by decide)).trans h0, hlim]
    rcases hd with rfl | rfl
    · rw [if_pos (show nI 2 = 2 from rfl), if_pos rfl]
      exact e51 3 (by decide)
    · rw [if_neg (show ¬ nI 3 = 2 by decide), if_neg (show ¬ (3 = 2) by decide)]
      exact e51 2 (by decide)
  by_cases hwl : w ≤ lim
  · rw [if_pos hwl] at ex em
    have h8 : upd (upd gm 8 0) 8 0 = upd gm 8 0 := updd ..
    by_cases hw0 : w = 0
    · refine Or.inl ⟨(0, g, a), (0, upd gm 8 0, am), ?_, ?_, thr_8, rfl, Cpl_8 hC⟩
      · rw [ex]
        unfold f_X3_leastAround
        rw [tuOf (by omega) r3, bc9 (by omega), ← hw, hw0, if_neg (show ¬ (1 : Int32) ≤ nI 0 by decide), Option.bind_some]
      · rw [em, hw0]
        unfold f_X12_around_59
        rw [h8, if_neg (by rw [upd_s]; decide), if_pos (show nI 0 = 0 from rfl)]
    · obtain ⟨mem, hmem⟩ := mem_ex (tu r) 31
      obtain ⟨X, g', a', x1, x2, x3⟩ := aroundX hB hX hr hw (by omega) (by omega) hmem
      have hw9 : w = pc (tu r) 9 := by rw [hw]; exact pc_up hT9 (by decide)
      have h0' : upd gm 8 0 0 = nI d := (upd_n _ _ (by decide)).trans h0
      have hN : d ^ (d ^ w) < 20000 ∧ f_X12_around_59 (upd gm 8 0) am (nI r) (nI w) 0 = f_X12_around_113 fu (upd gm 8 0) am (nI r) (nI w) (nI (d ^ (d ^ w))) (nI 0) (nI 0) := by
        unfold f_X12_around_59
        rw [h8, if_neg (by rw [upd_s]; decide), if_neg (nI_ne0 (by omega) (by omega)), h0']
        rcases hd with rfl | rfl
        · rw [if_pos (show nI 2 = 2 from rfl), pwM (by omega) h0', Option.bind_some]
          rw [if_pos rfl] at hlim
          have h8' : 2 ^ w ≤ 2 ^ 3 := Nat.pow_le_pow_right (by decide) (by omega)
          have h88 : 2 ^ (2 ^ w) ≤ 2 ^ 8 := Nat.pow_le_pow_right (by decide) h8'
          rw [shl_nI (by omega)]
          exact ⟨by omega, rfl⟩
        · rw [if_neg (show ¬ nI 3 = 2 by decide)]
          rw [if_neg (by decide)] at hlim
          rcases (by omega : w = 1 ∨ w = 2) with h | h
          · rw [h, if_pos (show nI 1 = 1 from rfl)]
            exact ⟨by decide, rfl⟩
          · rw [h, if_neg (show ¬ nI 2 = 1 by decide)]
            exact ⟨by decide, rfl⟩
      obtain ⟨Y, am', m1, m2, m3⟩ := am113 (n0 := pl r) (mem := mem) hd h0' hr r5 r6 rfl hw9 (by omega) (by omega) hT9 hmem hN.1 (d ^ (d ^ w)) 0 fu am 0 (by omega) (fu_gt (by have := hN.1; omega)) (RM_of hR) (Nat.two_pow_pos _) (fun i => by
        rw [Nat.zero_testBit]
        exact ⟨fun q => (by cases q), fun ⟨c', q, _⟩ => by omega⟩)
      have hXY : X = Y := set_ext fun i => (x3 i).trans ((AR_code hd).trans (m3 i).symm)
      refine Or.inl ⟨(nI X, g', a'), (nI X, upd gm 8 0, am'), ?_, ?_, thr_8, rfl, Cpl_fr hC (Sm_mo x2 (by decide) (by decide)) (SmM_tr SmM_8 m2)⟩
      · rw [ex, x1, Option.bind_some]
      · rw [em, hN.2, m1, hXY]
  · rw [if_neg hwl] at ex em
    refine Or.inr (Or.inr ⟨(2, g, a), (0, upd (upd gm 8 0) 8 (nI 2), am), ex, rfl, ?_, thr_8, Cpl_8 (Cpl_8 hC)⟩)
    rw [em]
    unfold f_X12_around_59
    rw [if_pos (by rw [upd_s]; decide)]
    rfl
