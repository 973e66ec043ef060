/-! define: the model's hold. -/
def PPz (pl cr : Nat → Nat) (c : Nat) : Nat := plx pl (cr c)
def TTz (d : Nat) (tu cr : Nat → Nat) (c : Nat) : Nat := tux d tu (cr c)
def HMZ (d R C : Nat) (pl tu cr : Nat → Nat) (cv : Nat → Nat → Nat) (gm : xG) (am : xA) : Prop := R ≤ 8 ∧ C ≤ 15 ∧ gm 0 = nI d ∧ gm 5 = nI C ∧ (∀ r, r < R → am 1 r = nI (pl r) ∧ am 2 r = nI (tu r)) ∧ ∀ c, c < C → (cr c < R ∨ cr c = 8) ∧ am 7 c = relM (cr c) ∧ 1 ≤ PPz pl cr c ∧ PPz pl cr c + d ≤ 5 ∧ TTz d tu cr c < 2 ^ (d ^ PPz pl cr c) ∧ ∀ j, j < PPz pl cr c → am 8 (3 * c + j) = nI (cv c j) ∧ cv c j < 6
theorem HMZ_of {d R C : Nat} {pl tu cr : Nat → Nat} {cv : Nat → Nat → Nat} {g : xG} {a : xA} {gm : xG} {am : xA} (hR : CR d R pl tu g a gm am) (h0 : gm 0 = nI d) (hC : C ≤ 15) (hA : ATZ d R C pl tu cr cv g a gm am) : HMZ d R C pl tu cr cv gm am := by
  refine ⟨hR.1, hC, h0, hA.2.1, fun r hr => ⟨(hR.2.2.2.2.2 r hr).2.1, (hR.2.2.2.2.2 r hr).2.2.2.1⟩, fun c hc => ?_⟩
  obtain ⟨w1, w2, w3, w4, w5, w6, w7, w8, w9⟩ := hA.1.2.2.2.2.2 c hc
  obtain ⟨y1, y2, y3⟩ := hA.2.2 c hc
  exact ⟨y1, y2, w7, w8, w6, fun j hj => ⟨y3 j hj, (w9 j hj).2⟩⟩
theorem eq_hld {d x y : Nat} (hd : d = 2 ∨ d = 3) (hx : x < d) (hy : y < d) : (eqm d).testBit (x + d * y) = true ↔ x = y := by
  rcases hd with rfl | rfl
  · rcases (by omega : (x = 0 ∨ x = 1) ∧ (y = 0 ∨ y = 1)) with ⟨rfl | rfl, rfl | rfl⟩ <;> decide
  · rcases (by omega : (x = 0 ∨ x = 1 ∨ x = 2) ∧ (y = 0 ∨ y = 1 ∨ y = 2)) with ⟨rfl | rfl | rfl, rfl | rfl | rfl⟩ <;> decide
theorem nm2 (d : Nat) (f : Nat → Nat) : nm d f 2 = f 0 + d * f 1 := by
  rw [nm_cons, nm_cons]
  show (nm d _ 0 * d + f (0 + 1)) * d + f 0 = _
  have : nm d (fun q => f (q + 1 + 1)) 0 = 0 := rfl
  rw [this, Nat.zero_mul, Nat.zero_add, Nat.mul_comm, Nat.add_comm]
theorem ho88 {d R C : Nat} {pl tu cr : Nat → Nat} {cv : Nat → Nat → Nat} {g : xG} {a : xA} (hd : d = 2 ∨ d = 3) (hM : HMZ d R C pl tu cr cv g a) {c code : Nat} (hc : c < C) (hr : cr c < R) (hcode : code < 2 ^ 31) {K : Int32 → Int32 → Int32 → Option Int32} :
    ∀ (p r n : Nat), p + r = PPz pl cr c → p < n → f_X12_hold_88 g a K n (nI code) (nI c) (nI (nm d (fun q => dg d code (cv c (p + q))) r)) (nI p + -nI 1) = K (nI code) (if hld d (PPz pl cr c) (TTz d tu cr c) (cv c) (dg d code) then 1 else 0) (nI (c + 1))
  | 0, r, n, hp, hn => by
    obtain ⟨n, rfl⟩ := pos_of hn
    have e : r = PPz pl cr c := by omega
    subst e
    obtain ⟨hR, hC, h0, h5, hrel, h⟩ := id hM
    obtain ⟨h1, h2, h3, h4, h6, h8⟩ := h c hc
    have hl := nm_lt (d := d) (f := fun q => dg d code (cv c q)) (PPz pl cr c) (fun p hp => dg_lt (by omega) _ _)
    have hp9 := pw9 hd h4
    have ht9 := TC_lt hd h6 h4
    have et : TTz d tu cr c = tu (cr c) := if_neg (by omega)
    have em : relM (cr c) = nI (cr c) := if_neg (by omega)
    rw [e_X12_hold_88, if_pos (show nI 0 + -nI 1 < 0 from m1z), hn_0 d (fun q => dg d code (cv c q)), ck_t (inB_t (by omega) (by decide)), nI_clamp (by omega), h2, em, ck_t (inB_t (by omega) (by decide)), nI_clamp (by omega), (hrel _ hr).2, isInM (by omega) (by omega), show nI c + 1 = nI (c + 1) from nI_1 c, ← et]
    rfl
  | p + 1, r, n, hp, hn => by
    obtain ⟨n, rfl⟩ := pos_of hn
    obtain ⟨hR, hC, h0, h5, hrel, h⟩ := id hM
    obtain ⟨h1, h2, h3, h4, h6, h8⟩ := h c hc
    have hpv := h8 p (by omega)
    rw [e_X12_hold_88, m1p, if_neg (nI_pos (by omega)), h0]
    simp only [z0, z1, z2, z3, z4, z5, z6, z7, z8, z9, z16, z27, z31, z32, z36, z60, nI_add, pk_mul, m1s]
    rw [ck_t (inB_t (by omega) (by decide)), nI_clamp (by omega), hpv.1, onM hd (by omega) h0 hcode, Option.bind_some, nI_add, hn_sh d (fun q => dg d code (cv c q))]
    exact ho88 hd hM hc hr hcode p (r + 1) n (by omega) (by omega)
theorem ho4 {d R C : Nat} {pl tu cr : Nat → Nat} {cv : Nat → Nat → Nat} {g : xG} {a : xA} (hd : d = 2 ∨ d = 3) (hM : HMZ d R C pl tu cr cv g a) {code : Nat} (hcode : code < 2 ^ 31) :
    ∀ (r c n : Nat) (b0 : Bool), c + r = C → r < n → ∃ b : Bool, f_X12_hold_4 g a n (nI code) (if b0 then 1 else 0) (nI c) = some (if b then 1 else 0) ∧ (b = true ↔ b0 = true ∧ ∀ c', c ≤ c' → c' < C → hld d (PPz pl cr c') (TTz d tu cr c') (cv c') (dg d code) = true)
  | 0, c, n, b0, hp, hn => by
    obtain ⟨n, rfl⟩ := pos_of hn
    refine ⟨b0, ?_, fun q => ⟨q, fun c' h1 h2 => by omega⟩, fun q => q.1⟩
    have hC := hM.2.1
    rw [e_X12_hold_4, hM.2.2.2.1, if_pos (nI_le (by omega) (by omega)), ck_t]
    cases b0 <;> decide
  | r + 1, c, n, b0, hp, hn => by
    obtain ⟨n, rfl⟩ := pos_of hn
    have hC := hM.2.1
    have hd0 : 0 < d := by omega
    rw [e_X12_hold_4, hM.2.2.2.1, if_neg (nI_ge (by omega) (by omega))]
    cases b0 with
    | false =>
      refine ⟨false, ?_, fun q => (by cases q), fun q => q.1⟩
      rw [if_pos (by decide), ck_t (by decide)]
    | true =>
      obtain ⟨hR, _, h0, h5, hrel, h⟩ := id hM
      have hc : c < C := by omega
      obtain ⟨h1, h2, h3, h4, h6, h8⟩ := h c hc
      obtain ⟨b, e1, e2⟩ := ho4 hd hM hcode r (c + 1) n (hld d (PPz pl cr c) (TTz d tu cr c) (cv c) (dg d code)) (by omega) (by omega)
      refine ⟨b, ?_, e2.trans ⟨fun q => ⟨rfl, fun c' q1 q2 => ?_⟩, fun q => ⟨q.2 c (Nat.le_refl _) hc, fun c' q1 q2 => q.2 c' (by omega) q2⟩⟩⟩
      · have k0 := h8 0 (by omega)
        rw [if_neg (by decide), show (3 : Int32) * nI c = nI (3 * c) from pk_mul 3 c, ck_t (inB_t (by omega) (by decide)), nI_clamp (by omega), show a 8 (3 * c) = nI (cv c 0) from k0.1, onM hd (by omega) h0 hcode, Option.bind_some, ck_t (inB_t (by omega) (by decide)), nI_clamp (by omega), h2]
        by_cases z : cr c = 8
        · have ep : PPz pl cr c = 2 := if_pos z
          have et : TTz d tu cr c = eqm d := if_pos z
          have k1 := h8 1 (by omega)
          rw [if_pos (show relM (cr c) = -1 from if_pos z), show nI (3 * c) + 1 = nI (3 * c + 1) from nI_1 _, ck_t (inB_t (by omega) (by decide)), nI_clamp (by omega), k1.1, onM hd (by omega) h0 hcode, Option.bind_some, nI_1]
          have he : hld d (PPz pl cr c) (TTz d tu cr c) (cv c) (dg d code) = true ↔ dg d code (cv c 0) = dg d code (cv c 1) := by
            rw [ep, et]
            unfold hld
            rw [nm2]
            exact eq_hld hd (dg_lt hd0 _ _) (dg_lt hd0 _ _)
          have hl0 := dg_lt hd0 code (cv c 0)
          have hl1 := dg_lt hd0 code (cv c 1)
          by_cases w : dg d code (cv c 0) = dg d code (cv c 1)
          · rw [if_pos (by rw [w])]
            rw [he.mpr w] at e1
            exact e1
          · rw [if_neg (fun e => w ((nI_eqs (by omega) (by omega)).mp e))]
            rw [Bool.eq_false_iff.mpr (fun e => w (he.mp e))] at e1
            exact e1
        · have hr : cr c < R := by omega
          have em : relM (cr c) = nI (cr c) := if_neg z
          have ep : PPz pl cr c = pl (cr c) := if_neg z
          have hne : ¬ nI (cr c) = -1 := fun e => nI_pos (n := cr c) (by omega) (by rw [e]; decide)
          rw [em, if_neg hne, ck_t (inB_t (by omega) (by decide)), ck_t (inB_t (by omega) (by decide)), nI_clamp (by omega), (hrel _ hr).1, ← ep]
          have := ho88 (K := f_X12_hold_4 g a n) hd hM hc hr hcode (PPz pl cr c) 0 fu (by omega) (fu_gt (by omega))
          simp only [z0, z1, m1s] at this ⊢
          refine Eq.trans this ?_
          simp only [z0, z1] at e1
          exact e1
      · by_cases he : c' = c
        · rw [he]; exact q.1
        · exact q.2 c' (by omega) q2
theorem holdM {d R C : Nat} {pl tu cr : Nat → Nat} {cv : Nat → Nat → Nat} {g : xG} {a : xA} (hd : d = 2 ∨ d = 3) (hM : HMZ d R C pl tu cr cv g a) {code : Nat} (hcode : code < 2 ^ 31) :
    ∃ b : Bool, f_X12_hold g a (nI code) = some (if b then 1 else 0) ∧ (b = true ↔ SolC d C (PPz pl cr) cv (TTz d tu cr) (dg d code)) := by
  obtain ⟨b, e1, e2⟩ := ho4 hd hM hcode C 0 fu true (by omega) (fu_gt (by have := hM.2.1; omega))
  refine ⟨b, e1, e2.trans ⟨fun q c hc => q.2 c (Nat.zero_le _) hc, fun q => ⟨rfl, fun c' _ h => q c' h⟩⟩⟩
