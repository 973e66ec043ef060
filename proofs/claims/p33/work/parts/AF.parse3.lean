/-! What is typed, read: one place, and one atom. -/
def P1 : List Nat := [8, 9, 10, 11]
def Q1 : List Nat := [23, 25, 26, 27, 28]
def IZ (d C : Nat) (pl tu cr : Nat → Nat) (cv : Nat → Nat → Nat) (g : xG) (a : xA) : Prop := Ins d 0 6 C cr (fun c => plx pl (cr c)) cv (fun c => tux d tu (cr c)) g a
theorem IZ_fr {d C : Nat} {pl tu cr : Nat → Nat} {cv : Nat → Nat → Nat} {g g' : xG} {a a' : xA} (h : IZ d C pl tu cr cv g a) (h1 : g' 12 = g 12) (h2 : g' 11 = g 11) (h3 : a' 25 = a 25) (h4 : a' 26 = a 26) (h5 : a' 27 = a 27) (h6 : a' 28 = a 28) (h7 : a' 6 = a 6) : IZ d C pl tu cr cv g' a' := Ins_fr h h1 h2 h3 h4 h5 h6 h7
theorem IZ_add {d C r : Nat} {pl tu cr : Nat → Nat} {cv : Nat → Nat → Nat} {g g' : xG} {a a' : xA} {x : Nat → Nat} {f : Nat → Int32} (h : IZ d C pl tu cr cv g a) (hC : C < 16) (hr : r < 9) (hr6 : a 6 r = nI (tux d tu r)) (hr7 : tux d tu r < 2 ^ (d ^ plx pl r)) (hp : 1 ≤ plx pl r) (hp5 : plx pl r + d ≤ 5) (hx : ∀ p, p < plx pl r → f (3 * C + p) = nI (x p) ∧ x p < 6) (hf : ∀ i, i < 3 * C → f i = a 27 i) (h1 : g' 12 = g 12) (h2 : g' 11 = nI (C + 1)) (h3 : a' 25 = upd (a 25) C (nI r)) (h4 : a' 26 = upd (a 26) C (nI (plx pl r))) (h5 : a' 27 = f) (h6 : a' 28 = upd (a 28) C (nI (lowv x (plx pl r)))) (h7 : a' 6 = a 6) (hd2 : d = 2 ∨ d = 3) : IZ d (C + 1) pl tu (nup cr C r) (fun c => if c = C then x else cv c) g' a' := by
  obtain ⟨i1, i2, i3, i4, i5, i6⟩ := id h
  refine ⟨i1, i2, by omega, h1.trans i4, h2, fun c hc => ?_⟩
  show _ ∧ a' 25 c = _ ∧ a' 26 c = _ ∧ a' 28 c = _ ∧ a' 6 (nup cr C r c) = _ ∧ _ ∧ _ ∧ _ ∧ ∀ p, p < plx pl (nup cr C r c) → a' 27 (3 * c + p) = _ ∧ _
  rw [h3, h4, h5, h6, h7]
  by_cases z : c = C
  · subst z
    simp only [nup_s, upd_s, if_true]
    exact ⟨hr, True.intro, True.intro, True.intro, hr6, hr7, hp, hp5, hx⟩
  · simp only [nup_n _ _ z, upd_n _ _ z, if_neg z]
    obtain ⟨w1, w2, w3, w4, w5, w6, w7, w8, w9⟩ := i6 c (by omega)
    refine ⟨w1, w2, w3, w4, w5, w6, w7, w8, fun p hp => ?_⟩
    have h3p : p < 3 := by
      have : p < plx pl (cr c) := hp
      have w8' : plx pl (cr c) + d ≤ 5 := w8
      omega
    rw [hf (3 * c + p) (by omega)]
    exact w9 p hp
theorem a30 (F : Nat → Int32) : atF 3 F 0 = F 0 := at_in (i := 0) (f := F) (by decide) (by decide)
theorem a31 (F : Nat → Int32) : atF 3 F 1 = F 1 := at_in (i := 1) (f := F) (by decide) (by decide)
theorem a32 (F : Nat → Int32) : atF 3 F 2 = F 2 := at_in (i := 2) (f := F) (by decide) (by decide)
section
variable {d R T : Nat} {pl tu ch : Nat → Nat} {g : xG} {a : xA} {gm : xG} {am : xA}
theorem tk4 (h8 : g 8 = nI 4) (c : Int32) : f_X1_takes g a c = Option.bind (f_X1_takesVariable g a c) (fun u14 => ck (boB u14.1) (some (u14.1, u14.2.1, u14.2.2))) := by
  unfold f_X1_takes
  rw [h8, if_neg (by decide), if_neg (by decide), if_neg (by decide), if_neg (by decide), if_pos (show nI 4 = 4 from rfl)]
/-- a variable at its place -/
theorem rd_var (hP : PZ d R T pl tu ch g a gm am) {q n r i C : Nat} {cr x : Nat → Nat} {cv : Nat → Nat → Nat} (hq : q ≤ T) (hn : T < q + n) (h8 : g 8 = nI 4) (h9 : g 9 = nI r) (h10 : g 10 = nI i) (hr : r < R ∨ r = 8) (hi : i < plx pl r) (hC : C < 16) (hI : IZ d C pl tu cr cv g a) (hx : ∀ j, j < i → a 23 j = nI (x j) ∧ x j < 6) :
    (f_X12_isVariable gm am (nI q) = some 0 ∧ f_X1_read_21 n g a (nI q) = some (nI q, g, a)) ∨
    (q < T ∧ ∃ (y m : Nat) (g' : xG) (a' : xA), y < 6 ∧ T < q + 1 + m ∧ f_X12_isVariable gm am (nI q) = some 1 ∧ f_X12_signAt gm am (nI q) = some (nI (ch q)) ∧ nI (ch q) - 97 = nI y ∧ f_X1_read_21 n g a (nI q) = f_X1_read_21 m g' a' (nI (q + 1)) ∧ Sm P1 Q1 g a g' a' ∧ (∀ j, j < i + 1 → nup x i y j < 6) ∧
      (i + 1 < plx pl r → g' 8 = nI 5 ∧ g' 9 = nI r ∧ g' 10 = nI (i + 1) ∧ IZ d C pl tu cr cv g' a' ∧ ∀ j, j < i + 1 → a' 23 j = nI (nup x i y j) ∧ nup x i y j < 6) ∧
      (i + 1 = plx pl r → g' 8 = nI (if r = 8 then 7 else 6) ∧ IZ d (C + 1) pl tu (nup cr C r) (fun c => if c = C then nup x i y else cv c) g' a')) := by
  obtain ⟨n, rfl⟩ : ∃ m, n = m + 1 := pos_of (r := 0) (by omega)
  by_cases hqT : q < T
  · have hc := sgn_lt (hP.2.2.2.2.2.2.2.2.2.1 q hqT).2.2
    have hd2 := hP.1
    obtain ⟨r5, r6, rp, rp5, r7⟩ := hP.2.2.2.2.2.2.2.2.2.2.1 r hr
    have hr9 : r < 9 := by have := hP.2.1; omega
    rw [rd_step hP hqT, tk4 h8, vr_M hP hqT, sg_M hP hqT]
    unfold f_X1_takesVariable
    rcases vaK g a gm am hc with ⟨v1, v2, v3, v4, v5⟩ | ⟨v1, v2, v3⟩
    · refine Or.inr ⟨hqT, ?_⟩
      rw [v1, v2, if_neg n10, v5, h10, nI_1, put_in (by omega) (by decide)]
      have hy : ∀ j, j < i + 1 → (upd (a 23) i (nI (ch q - 97))) j = nI (nup x i (ch q - 97) j) ∧ nup x i (ch q - 97) j < 6 := fun j hj => by
        by_cases z : j = i
        · rw [z, upd_s, nup_s]
          exact ⟨rfl, v4⟩
        · rw [upd_n _ _ z, nup_n _ _ z]
          exact hx j (by omega)
      have e9 : (upd g 10 (nI (i + 1))) 9 = nI r := (upd_n _ _ (by decide)).trans h9
      have e5 : t_X10_placesOf (upd g 10 (nI (i + 1))) (upA a 23 (upd (a 23) i (nI (ch q - 97)))) (nI r) = nI (plx pl r) := plOf hr9 ((congrFun (upA_n _ _ (by decide)) r).trans r5)
      rw [e9, e5, upd_s, upA_s, a30, a31, a32]
      by_cases z : i + 1 < plx pl r
      · rw [if_neg (nI_ge z (by omega)), Option.bind_some, ck_t bo1, Option.bind_some, if_neg n10]
        refine ⟨ch q - 97, n, _, _, v4, by omega, rfl, rfl, rfl, rfl, ?_, fun j hj => (hy j hj).2, fun _ => ⟨?_, ?_, ?_, ?_, ?_⟩, fun e => by omega⟩
        · exact Sm_A (Sm_G (Sm_G Sm_rfl (by decide)) (by decide)) (by decide)
        · rfl
        · exact e9
        · rfl
        · exact IZ_fr hI rfl rfl rfl rfl rfl rfl rfl
        · intro j hj
          show (upA a 23 (upd (a 23) i (nI (ch q - 97)))) 23 j = _ ∧ _
          rw [upA_s]
          exact hy j hj
      · have z' : i + 1 = plx pl r := by omega
        have hx3 : ∀ p, p < plx pl r → tri3 ((upd (a 23) i (nI (ch q - 97))) 0) ((upd (a 23) i (nI (ch q - 97))) 1) ((upd (a 23) i (nI (ch q - 97))) 2) p = nI (nup x i (ch q - 97) p) ∧ nup x i (ch q - 97) p < 100 := fun p hp => by
          obtain ⟨w1, w2⟩ := hy p (by omega)
          refine ⟨?_, by omega⟩
          rw [← w1]
          have h3 : p = 0 ∨ p = 1 ∨ p = 2 := by omega
          rcases h3 with rfl | rfl | rfl <;> rfl
        obtain ⟨a', f, f1, f2, f3, f4⟩ := addX (j := 0) (C := C) (r := r) (n0 := plx pl r) (x := nup x i (ch q - 97)) (g := upd g 10 (nI (i + 1))) (a := upA a 23 (upd (a 23) i (nI (ch q - 97)))) (v2 := (upd (a 23) i (nI (ch q - 97))) 0) (v3 := (upd (a 23) i (nI (ch q - 97))) 1) (v4 := (upd (a 23) i (nI (ch q - 97))) 2) (by decide) hC hr9 (by omega) ((upd_n _ _ (by decide)).trans hI.2.2.2.2.1) ((congrFun (upA_n _ _ (by decide)) r).trans r5) hx3
        rw [if_pos (nI_le (by omega) (by omega)), f1, Option.bind_some]
        have e3 : (upd (upd g 10 (nI (i + 1))) (11 + 2 * 0) (nI (C + 1))) 9 = nI r := (upd_n _ _ (by decide)).trans e9
        have fin : ∀ w : Nat, w = 7 ∨ w = 6 → w = (if r = 8 then 7 else 6) → ∃ (y m : Nat) (g' : xG) (a'' : xA), y < 6 ∧ T < q + 1 + m ∧ (some (1 : Int32)) = some 1 ∧ some (nI (ch q)) = some (nI (ch q)) ∧ nI (ch q - 97) = nI y ∧ f_X1_read_21 n (upd (upd (upd g 10 (nI (i + 1))) (11 + 2 * 0) (nI (C + 1))) 8 (nI w)) a' (nI (q + 1)) = f_X1_read_21 m g' a'' (nI (q + 1)) ∧ Sm P1 Q1 g a g' a'' ∧ (∀ j, j < i + 1 → nup x i y j < 6) ∧ (i + 1 < plx pl r → g' 8 = nI 5 ∧ g' 9 = nI r ∧ g' 10 = nI (i + 1) ∧ IZ d C pl tu cr cv g' a'' ∧ ∀ j, j < i + 1 → a'' 23 j = nI (nup x i y j) ∧ nup x i y j < 6) ∧ (i + 1 = plx pl r → g' 8 = nI (if r = 8 then 7 else 6) ∧ IZ d (C + 1) pl tu (nup cr C r) (fun c => if c = C then nup x i y else cv c) g' a'') := fun w _ hw => by
          have q25 : a' 25 = upd (a 25) C (nI r) := by rw [f2]; rfl
          have q26 : a' 26 = upd (a 26) C (nI (plx pl r)) := by rw [f2]; rfl
          have q27 : a' 27 = f := by rw [f2]; rfl
          have q28 : a' 28 = upd (a 28) C (nI (lowv (nup x i (ch q - 97)) (plx pl r))) := by rw [f2]; rfl
          have q6 : a' 6 = a 6 := by rw [f2]; rfl
          refine ⟨ch q - 97, n, _, _, v4, by omega, rfl, rfl, rfl, rfl, ?_, fun j hj => (hy j hj).2, fun e => by omega, fun _ => ⟨by rw [upd_s, hw], ?_⟩⟩
          · rw [f2]
            exact Sm_A (Sm_A (Sm_A (Sm_A (Sm_A (Sm_G (Sm_G (Sm_G Sm_rfl (by decide)) (by decide)) (by decide)) (by decide)) (by decide)) (by decide)) (by decide)) (by decide)
          · exact IZ_add hI hC hr9 r6 r7 rp rp5 (fun p hp => ⟨by rw [f4 p (by omega)]; exact (hx3 p hp).1, (hy p (by omega)).2⟩) (fun i hi => (f3 i hi).trans rfl) rfl rfl q25 q26 q27 q28 q6 hd2
        by_cases z8 : r = 8
        · rw [if_pos (show (upd (upd g 10 (nI (i + 1))) (11 + 2 * 0) (nI (C + 1))) 9 = 8 by rw [e3, z8]; rfl), Option.bind_some, ck_t bo1, Option.bind_some, if_neg n10]
          exact fin 7 (Or.inl rfl) (if_pos z8).symm
        · rw [if_neg (show ¬ (upd (upd g 10 (nI (i + 1))) (11 + 2 * 0) (nI (C + 1))) 9 = 8 by rw [e3]; exact fun e => z8 ((nI_eqs (y := 8) (by omega) (by decide)).mp e)), Option.bind_some, ck_t bo1, Option.bind_some, if_neg n10]
          exact fin 6 (Or.inr rfl) (if_neg z8).symm
    · rw [v1, v2, if_pos rfl, Option.bind_some, ck_t bo0, Option.bind_some, if_pos rfl]
      exact Or.inl ⟨rfl, rfl⟩
  · have e : q = T := by omega
    subst e
    refine Or.inl ⟨vr_T hP, ?_⟩
    rw [rd_end hP h8 (by decide), if_neg (by decide)]
end
