/-! Numbers of the bytecode as nI. -/
theorem z0 : (0 : Int32) = nI 0 := rfl
theorem z1 : (1 : Int32) = nI 1 := rfl
theorem z2 : (2 : Int32) = nI 2 := rfl
theorem z3 : (3 : Int32) = nI 3 := rfl
theorem z4 : (4 : Int32) = nI 4 := rfl
theorem z5 : (5 : Int32) = nI 5 := rfl
theorem z6 : (6 : Int32) = nI 6 := rfl
theorem z7 : (7 : Int32) = nI 7 := rfl
theorem z8 : (8 : Int32) = nI 8 := rfl
theorem z9 : (9 : Int32) = nI 9 := rfl
theorem z16 : (16 : Int32) = nI 16 := rfl
theorem z27 : (27 : Int32) = nI 27 := rfl
theorem z31 : (31 : Int32) = nI 31 := rfl
theorem z32 : (32 : Int32) = nI 32 := rfl
theorem z36 : (36 : Int32) = nI 36 := rfl
theorem z60 : (60 : Int32) = nI 60 := rfl
theorem m1p (n : Nat) : nI (n + 1) + -nI 1 = nI n := pk_m1 n
theorem m1z : nI 0 + -nI 1 < nI 0 := by decide
theorem m1s (x : Int32) : x - nI 1 = x + -nI 1 := Int32.sub_eq_add_neg ..
theorem upA_id (a : xA) (r : Nat) : upA a r (a r) = a := by
  funext j
  by_cases h : j = r
  · subst h; exact upA_s ..
  · exact upA_n _ _ h
theorem upA_2 (a : xA) (r : Nat) (f f' : Nat → Int32) : upA (upA a r f) r f' = upA a r f' := by
  funext j
  unfold upA
  by_cases h : j = r
  · rw [if_pos h, if_pos h]
  · rw [if_neg h, if_neg h, if_neg h]
/-- all but some are the same -/
def Sm (P Q : List Nat) (g : xG) (a : xA) (g' : xG) (a' : xA) : Prop := (∀ i, ¬ i ∈ P → g' i = g i) ∧ (∀ i, ¬ i ∈ Q → a' i = a i)
theorem Sm_rfl {P Q : List Nat} {g : xG} {a : xA} : Sm P Q g a g a := ⟨fun _ _ => rfl, fun _ _ => rfl⟩
theorem Sm_tr {P Q : List Nat} {g g1 g2 : xG} {a a1 a2 : xA} (h1 : Sm P Q g a g1 a1) (h2 : Sm P Q g1 a1 g2 a2) : Sm P Q g a g2 a2 :=
  ⟨fun i hi => (h2.1 i hi).trans (h1.1 i hi), fun i hi => (h2.2 i hi).trans (h1.2 i hi)⟩
theorem Sm_mo {P Q P' Q' : List Nat} {g g1 : xG} {a a1 : xA} (h1 : Sm P Q g a g1 a1) (hp : ∀ i ∈ P, i ∈ P') (hq : ∀ i ∈ Q, i ∈ Q') : Sm P' Q' g a g1 a1 :=
  ⟨fun i hi => h1.1 i (fun h => hi (hp i h)), fun i hi => h1.2 i (fun h => hi (hq i h))⟩
theorem Sm_A {P Q : List Nat} {g g1 : xG} {a a1 : xA} {r : Nat} {f : Nat → Int32} (h1 : Sm P Q g a g1 a1) (hr : r ∈ Q) : Sm P Q g a g1 (upA a1 r f) :=
  ⟨h1.1, fun i hi => (upA_n _ _ (fun h => hi (by rw [h]; exact hr))).trans (h1.2 i hi)⟩
theorem Sm_G {P Q : List Nat} {g g1 : xG} {a a1 : xA} {r : Nat} {v : Int32} (h1 : Sm P Q g a g1 a1) (hr : r ∈ P) : Sm P Q g a (upd g1 r v) a1 :=
  ⟨fun i hi => (upd_n _ _ (fun h => hi (by rw [h]; exact hr))).trans (h1.1 i hi), h1.2⟩
theorem pw3 {d w : Nat} (hd : d = 2 ∨ d = 3) (hw : w ≤ 3) : d ^ w ≤ 27 := by
  have h : w = 0 ∨ w = 1 ∨ w = 2 ∨ w = 3 := by omega
  rcases hd with rfl | rfl <;> rcases h with rfl | rfl | rfl | rfl <;> decide
theorem pw6 {d w : Nat} (hd : d = 2 ∨ d = 3) (hw : w ≤ 6) : d ^ w ≤ 729 := by
  have h : w = 0 ∨ w = 1 ∨ w = 2 ∨ w = 3 ∨ w = 4 ∨ w = 5 ∨ w = 6 := by omega
  rcases hd with rfl | rfl <;> rcases h with rfl | rfl | rfl | rfl | rfl | rfl | rfl <;> decide
theorem pw9 {d w : Nat} (hd : d = 2 ∨ d = 3) (hw : w + d ≤ 5) : d ^ w ≤ 9 := by
  rcases hd with rfl | rfl
  · have h : w = 0 ∨ w = 1 ∨ w = 2 ∨ w = 3 := by omega
    rcases h with rfl | rfl | rfl | rfl <;> decide
  · have h : w = 0 ∨ w = 1 ∨ w = 2 := by omega
    rcases h with rfl | rfl | rfl <;> decide
theorem pwp {d : Nat} (hd : d = 2 ∨ d = 3) (w : Nat) : 0 < d ^ w := Nat.pow_pos (by omega)
theorem mw3 {m w : Nat} (hm : m ≤ 27) (hw : w ≤ 3) : m ^ w ≤ 19683 := by
  have h1 : m ^ w ≤ 27 ^ w := Nat.pow_le_pow_left hm w
  have h2 : 27 ^ w ≤ 27 ^ 3 := Nat.pow_le_pow_right (by decide) hw
  have h3 : 27 ^ 3 = 19683 := by decide
  omega
theorem nm_cons {d : Nat} {f : Nat → Nat} : ∀ n, nm d f (n + 1) = nm d (fun q => f (q + 1)) n * d + f 0
  | 0 => by simp [nm]
  | n + 1 => by
    have h := nm_cons (d := d) (f := f) n
    unfold nm
    rw [h]
    unfold nm
    simp only [Nat.pow_succ, Nat.add_mul]
    have : f (n + 1) * (d ^ n * d) = f (n + 1) * d ^ n * d := (Nat.mul_assoc ..).symm
    omega
theorem nm_add {d : Nat} {f h : Nat → Nat} : ∀ n, nm d f n + nm d h n = nm d (fun q => f q + h q) n
  | 0 => rfl
  | n + 1 => by
    unfold nm
    rw [← nm_add n, Nat.add_mul]
    omega
theorem nm_mul {d c : Nat} {f : Nat → Nat} : ∀ n, nm d f n * c = nm d (fun q => f q * c) n
  | 0 => Nat.zero_mul _
  | n + 1 => by
    unfold nm
    rw [← nm_mul n, Nat.add_mul, Nat.mul_assoc, Nat.mul_assoc, Nat.mul_comm (d ^ n) c]
theorem nm_zero {d : Nat} : ∀ n, nm d (fun _ => 0) n = 0
  | 0 => rfl
  | n + 1 => by unfold nm; rw [nm_zero n, Nat.zero_mul]
theorem nm_swap {d e n : Nat} {F : Nat → Nat → Nat} : ∀ w, nm d (fun p => nm e (F p) n) w = nm e (fun j => nm d (fun p => F p j) w) n
  | 0 => (nm_zero n).symm
  | w + 1 => by
    show nm d (fun p => nm e (F p) n) w + nm e (F w) n * d ^ w = nm e (fun j => nm d (fun p => F p j) w + F w j * d ^ w) n
    rw [nm_swap w, nm_mul, nm_add]
/-- a code spread on fives of bits -/
def sp (d c : Nat) : Nat := nm 32 (dg d c) 4
theorem sp_lt {d : Nat} (hd : d = 2 ∨ d = 3) (c : Nat) : sp d c < 1048576 := nm_lt (d := 32) 4 (fun k _ => by
  have := dg_lt (d := d) (by omega) c k
  omega)
theorem dg_sp {d c j : Nat} (hd : d = 2 ∨ d = 3) (hj : j < 4) : dg 32 (sp d c) j = dg d c j := nm_dg (by decide) 4 (fun k _ => by
  have := dg_lt (d := d) (by omega) c k
  omega) j hj
theorem nm_sp {d w : Nat} (hd : d = 2 ∨ d = 3) (hw : w ≤ 3) (x : Nat → Nat) {j : Nat} (hj : j < 4) :
    dg 32 (nm d (fun p => sp d (x p)) w) j = nm d (fun p => dg d (x p) j) w := by
  unfold sp
  rw [nm_swap]
  refine nm_dg (by decide) 4 (fun k _ => ?_) j hj
  have h1 := nm_lt (d := d) (f := fun p => dg d (x p) k) w (fun p _ => dg_lt (by omega) _ _)
  have h2 := pw3 hd hw
  omega
theorem nm_sp_lt {d w : Nat} (hd : d = 2 ∨ d = 3) (hw : w ≤ 3) (x : Nat → Nat) : nm d (fun p => sp d (x p)) w < 1048576 := by
  unfold sp
  rw [nm_swap]
  refine nm_lt (d := 32) 4 (fun k _ => ?_)
  have h1 := nm_lt (d := d) (f := fun p => dg d (x p) k) w (fun p _ => dg_lt (by omega) _ _)
  have h2 := pw3 hd hw
  omega
def Bas (d : Nat) (g : xG) (a : xA) : Prop := (d = 2 ∨ d = 3) ∧ g 0 = nI d ∧ (∀ i, i < 7 → a 2 i = nI (d ^ i)) ∧ (∀ c, c < 27 → a 3 c = nI (sp d c))
theorem Bas_sm {d : Nat} {P Q : List Nat} {g g' : xG} {a a' : xA} (h : Bas d g a) (s : Sm P Q g a g' a') (h0 : ¬ 0 ∈ P := by decide) (h2 : ¬ 2 ∈ Q := by decide) (h3 : ¬ 3 ∈ Q := by decide) : Bas d g' a' :=
  ⟨h.1, (s.1 0 h0).trans h.2.1, fun i hi => (congrFun (s.2 2 h2) i).trans (h.2.2.1 i hi), fun i hi => (congrFun (s.2 3 h3) i).trans (h.2.2.2 i hi)⟩
theorem power_B {d n : Nat} {g : xG} {a : xA} (h : Bas d g a) (hn : n < 7) : t_X4_power g a (nI n) = nI (d ^ n) := by
  unfold t_X4_power
  rw [at_in hn (by decide), h.2.2.1 n hn]
theorem sh5 {j : Nat} (hj : j < 6) : nI 5 * nI j &&& 31 = nI (5 * j) &&& 31 := by rw [pk_mul]
theorem onPl {g : xG} {a : xA} {X j : Nat} (hX : X < 2 ^ 31) (hj : j < 6) : t_X4_onPlace g a (nI X) (nI j) = nI (dg 32 X j) := by
  unfold t_X4_onPlace
  have e1 : (5 : Int32) * nI j &&& 31 = nI (5 * j) &&& 31 := sh5 hj
  rw [e1, pk_shrN hX _ (5 * j) (sh_l _ (by omega)), pk_andN (Nat.lt_of_le_of_lt (Nat.div_le_self ..) (by omega)) 5 (by decide)]
  unfold dg
  have : (32 : Nat) ^ j = 2 ^ (5 * j) := by rw [Nat.pow_mul]
  rw [this]
theorem digit_B {d c j : Nat} {g : xG} {a : xA} (h : Bas d g a) (hc : c < 27) (hj : j < 4) : t_X4_digit g a (nI c) (nI j) = nI (dg d c j) := by
  have h1 := onPl (g := g) (a := a) (X := sp d c) (j := j) (Nat.lt_trans (sp_lt h.1 c) (by decide)) (by omega)
  unfold t_X4_onPlace at h1
  unfold t_X4_digit
  rw [at_in hc (by decide), h.2.2.2 c hc, h1, dg_sp h.1 hj]
/-- what an operation with table T, of w places, answers for some codes of n places -/
def apl (d w : Nat) (T : Nat → Nat) (n : Nat) (x : Nat → Nat) : Nat := nm d (fun j => T (nm d (fun p => dg d (x p) j) w)) n
theorem apl_cong {d w n : Nat} {T T' : Nat → Nat} {x y : Nat → Nat} (hd : 0 < d) (hT : ∀ p, p < d ^ w → T p = T' p) (h : ∀ p, p < w → x p = y p) : apl d w T n x = apl d w T' n y := by
  refine nm_cong fun j _ => ?_
  have e : nm d (fun p => dg d (x p) j) w = nm d (fun p => dg d (y p) j) w := nm_cong fun p hp => by
    show dg d (x p) j = dg d (y p) j
    rw [h p hp]
  show T (nm d (fun p => dg d (x p) j) w) = T' (nm d (fun p => dg d (y p) j) w)
  rw [e]
  exact hT _ (nm_lt w (fun p _ => dg_lt hd _ _))
theorem apl_lt {d w n : Nat} {T : Nat → Nat} {x : Nat → Nat} (hd : 0 < d) (hT : ∀ p, p < d ^ w → T p < d) : apl d w T n x < d ^ n :=
  nm_lt n (fun _ _ => hT _ (nm_lt w (fun p _ => dg_lt hd _ _)))
/-- it comes -/
def Img (d w : Nat) (T : Nat → Nat) (n s c : Nat) : Prop := ∃ x : Nat → Nat, (∀ p, p < w → s.testBit (x p) = true) ∧ apl d w T n x = c
def Opr (d k w : Nat) (T : Nat → Nat) (g : xG) (a : xA) : Prop := k ≤ 6 ∧ g (15 + k) = nI w ∧ 1 ≤ w ∧ w ≤ 3 ∧ ∀ p, p < d ^ w → a (47 + k) p = nI (T p) ∧ T p < d
theorem Opr_sm {d k w : Nat} {T : Nat → Nat} {P Q : List Nat} {g g' : xG} {a a' : xA} (h : Opr d k w T g a) (s : Sm P Q g a g' a') (h0 : ∀ i ∈ P, i < 15 := by decide) (h2 : ∀ i ∈ Q, i < 47 := by decide) : Opr d k w T g' a' :=
  ⟨h.1, (s.1 _ (fun q => by have := h0 _ q; omega)).trans h.2.1, h.2.2.1, h.2.2.2.1, fun p hp => ⟨(congrFun (s.2 _ (fun q => by have := h2 _ q; omega)) p).trans (h.2.2.2.2 p hp).1, (h.2.2.2.2 p hp).2⟩⟩
theorem pos_of {r n : Nat} (h : r < n) : ∃ m, n = m + 1 := ⟨n - 1, by omega⟩
theorem stepOn0 {g : xG} {m w : Nat} (hw : w ≤ 3) (hm : m ≤ 27) (h2 : g 2 = nI m) (h3 : g 3 = nI w) : ∀ (r p n : Nat) (a : xA) (cnt : Nat → Nat), p + r = w → r < n →
    (∀ q, q < w → a 9 q = nI (cnt q) ∧ cnt q < m) →
    ∃ (cnt' : Nat → Nat) (f : Nat → Int32), f_X0_stepOn_2 g n a (nI p) = some (upA a 9 f) ∧ (∀ q, q < w → f q = nI (cnt' q) ∧ cnt' q < m) ∧ (∀ q, q < p → cnt' q = cnt q) ∧
      (nm m (fun q => cnt (p + q)) r + 1 < m ^ r → nm m (fun q => cnt' (p + q)) r = nm m (fun q => cnt (p + q)) r + 1) := by
  intro r
  induction r with
  | zero =>
    intro p n a cnt hp hn h9
    obtain ⟨n, rfl⟩ := pos_of hn
    refine ⟨cnt, a 9, ?_, h9, fun _ _ => rfl, fun h => ?_⟩
    · rw [e_X0_stepOn_2, upA_id, h3, if_pos (nI_le (by omega) (by omega))]
    · simp [nm] at h
  | succ r ih =>
    intro p n a cnt hp hn h9
    obtain ⟨n, rfl⟩ := pos_of hn
    have c1 := h9 p (by omega)
    have ec : ∀ c : Nat → Nat, nm m (fun q => c (p + q)) (r + 1) = nm m (fun q => c (p + 1 + q)) r * m + c p := fun c => by
      rw [nm_cons]
      have : nm m (fun q => c (p + (q + 1))) r = nm m (fun q => c (p + 1 + q)) r := nm_cong fun k _ => by
        show c (p + (k + 1)) = c (p + 1 + k)
        congr 1
        omega
      rw [this]
      rfl
    rw [e_X0_stepOn_2, h3, if_neg (nI_ge (by omega) (by omega)), at_in (by omega) (by decide), c1.1, h2]
    simp only [z1, z0, nI_add]
    by_cases hc : m ≤ cnt p + 1
    · rw [if_pos (nI_le hc (by omega)), put_in (by omega) (by decide)]
      obtain ⟨cnt', f, h5, h6, h7, h8⟩ := ih (p + 1) n (upA a 9 (upd (a 9) p (nI 0))) (fun q => if q = p then 0 else cnt q) (by omega) (by omega) (fun q hq => by
        by_cases hqp : q = p
        · rw [upA_s, hqp, upd_s, if_pos rfl]
          exact ⟨rfl, by omega⟩
        · rw [upA_s, upd_n _ _ hqp, if_neg hqp]
          exact h9 q hq)
      rw [upA_2] at h5
      refine ⟨cnt', f, h5, h6, fun q hq => (h7 q (by omega)).trans (if_neg (by omega)), fun hlt => ?_⟩
      rw [ec] at hlt ⊢
      rw [ec]
      have e0 : cnt' p = 0 := (h7 p (by omega)).trans (if_pos rfl)
      have e1 : nm m (fun q => if p + 1 + q = p then 0 else cnt (p + 1 + q)) r = nm m (fun q => cnt (p + 1 + q)) r := nm_cong fun k _ => if_neg (by omega)
      rw [e1] at h8
      have hm1 : m = cnt p + 1 := by omega
      have h10 : (nm m (fun q => cnt (p + 1 + q)) r + 1) * m < m ^ r * m := by
        rw [Nat.add_mul, Nat.one_mul]
        rw [Nat.pow_succ] at hlt
        omega
      have := h8 (Nat.lt_of_mul_lt_mul_right h10)
      rw [this, e0, Nat.add_mul]
      omega
    · rw [if_neg (nI_ge (by omega) (by omega)), put_in (by omega) (by decide)]
      refine ⟨fun q => if q = p then cnt p + 1 else cnt q, upd (a 9) p (nI (cnt p + 1)), rfl, fun q hq => ?_, fun q hq => if_neg (by omega), fun _ => ?_⟩
      · dsimp only
        by_cases hqp : q = p
        · rw [hqp, upd_s, if_pos rfl]
          exact ⟨rfl, by omega⟩
        · rw [upd_n _ _ hqp, if_neg hqp]
          exact h9 q hq
      · rw [ec cnt, nm_cons]
        have e1 : nm m (fun q => if p + (q + 1) = p then cnt p + 1 else cnt (p + (q + 1))) r = nm m (fun q => cnt (p + 1 + q)) r := nm_cong fun k _ => by
          show (if p + (k + 1) = p then cnt p + 1 else cnt (p + (k + 1))) = cnt (p + 1 + k)
          rw [if_neg (by omega)]
          congr 1
          omega
        show nm m (fun q => if p + (q + 1) = p then cnt p + 1 else cnt (p + (q + 1))) r * m + (if p + 0 = p then cnt p + 1 else cnt (p + 0)) = _
        rw [e1, if_pos (by omega)]
        omega
theorem nextC_loop {g : xG} {a : xA} {d w m : Nat} {cnt mem : Nat → Nat} (hw : w ≤ 3) (hm : m ≤ 27) (h0 : g 0 = nI d) (h8 : ∀ i, i < m → a 8 i = nI (sp d (mem i))) (h9 : ∀ q, q < w → a 9 q = nI (cnt q) ∧ cnt q < m) :
    ∀ (p r n : Nat), p + r = w → p < n → f_X0_nextColumns_9 g n a (nI (nm d (fun q => sp d (mem (cnt (p + q)))) r)) (nI p + -nI 1) = Option.bind (f_X0_stepOn g a) (fun u2 => some (nI (nm d (fun q => sp d (mem (cnt q))) w), u2))
  | 0, r, n, hp, hn => by
    obtain ⟨n, rfl⟩ := pos_of hn
    have e : r = w := by omega
    subst e
    have e1 : nm d (fun q => sp d (mem (cnt (0 + q)))) r = nm d (fun q => sp d (mem (cnt q))) r := nm_cong fun k _ => by rw [Nat.zero_add]
    rw [e_X0_nextColumns_9, if_pos (show nI 0 + -nI 1 < 0 from m1z), e1]
  | p + 1, r, n, hp, hn => by
    obtain ⟨n, rfl⟩ := pos_of hn
    have c1 := h9 p (by omega)
    rw [e_X0_nextColumns_9, m1p, if_neg (nI_pos (by omega)), at_in (by omega) (by decide), c1.1, at_in (by omega) (by decide), h8 _ c1.2, h0]
    simp only [pk_mul, nI_add, z1]
    have e1 : nm d (fun q => sp d (mem (cnt (p + 1 + q)))) r * d + sp d (mem (cnt p)) = nm d (fun q => sp d (mem (cnt (p + q)))) (r + 1) := by
      rw [nm_cons]
      have : nm d (fun q => sp d (mem (cnt (p + 1 + q)))) r = nm d (fun q => sp d (mem (cnt (p + (q + 1))))) r := nm_cong fun k _ => by
        show sp d (mem (cnt (p + 1 + k))) = sp d (mem (cnt (p + (k + 1))))
        rw [show p + 1 + k = p + (k + 1) by omega]
      rw [this]
      rfl
    rw [e1]
    exact nextC_loop hw hm h0 h8 h9 p (r + 1) n (by omega) (by omega)
theorem nextC {g : xG} {a : xA} {d w m : Nat} {cnt mem : Nat → Nat} (hw : w ≤ 3) (hm : m ≤ 27) (h0 : g 0 = nI d) (h2 : g 2 = nI m) (h3 : g 3 = nI w) (h8 : ∀ i, i < m → a 8 i = nI (sp d (mem i))) (h9 : ∀ q, q < w → a 9 q = nI (cnt q) ∧ cnt q < m) :
    ∃ (cnt' : Nat → Nat) (f : Nat → Int32), f_X0_nextColumns g a = some (nI (nm d (fun q => sp d (mem (cnt q))) w), upA a 9 f) ∧ (∀ q, q < w → f q = nI (cnt' q) ∧ cnt' q < m) ∧ (nm m cnt w + 1 < m ^ w → nm m cnt' w = nm m cnt w + 1) := by
  obtain ⟨cnt', f, h4, h5, h6, h7⟩ := stepOn0 hw hm h2 h3 w 0 fu a cnt (by omega) (fu_gt (by omega)) h9
  refine ⟨cnt', f, ?_, h5, ?_⟩
  · unfold f_X0_nextColumns
    have := nextC_loop hw hm h0 h8 h9 w 0 fu (by omega) (fu_gt (by omega))
    simp only [h3, z1, z0, m1s]
    rw [show nm d (fun q => sp d (mem (cnt (w + q)))) 0 = 0 from rfl] at this
    rw [this]
    unfold f_X0_stepOn
    rw [z0, h4]
    rfl
  · have e : ∀ c : Nat → Nat, nm m (fun q => c (0 + q)) w = nm m c w := fun c => nm_cong fun k _ => by rw [Nat.zero_add]
    rw [e, e] at h7
    exact h7
theorem ansT_loop {k : Nat} {g : xG} {a : xA} {d w X n0 : Nat} {T : Nat → Nat} (hd : d = 2 ∨ d = 3) (hX : X < 2 ^ 31) (hn0 : n0 ≤ 3) (h0 : g 0 = nI d) (hT : ∀ j, j < 3 → dg 32 X j < d ^ w) (hw : w ≤ 3) (hA : ∀ p, p < d ^ w → a (47 + k) p = nI (T p)) :
    ∀ (p r n : Nat), p + r = n0 → p < n → f_X5_answerTuple_7 k g a n (nI X) (nI (nm d (fun q => T (dg 32 X (p + q))) r)) (nI p + -nI 1) = some (nI (nm d (fun q => T (dg 32 X q)) n0))
  | 0, r, n, hp, hn => by
    obtain ⟨n, rfl⟩ := pos_of hn
    have e : r = n0 := by omega
    subst e
    have e1 : nm d (fun q => T (dg 32 X (0 + q))) r = nm d (fun q => T (dg 32 X q)) r := nm_cong fun k _ => by rw [Nat.zero_add]
    rw [e_X5_answerTuple_7, if_pos (show nI 0 + -nI 1 < 0 from m1z), e1]
  | p + 1, r, n, hp, hn => by
    obtain ⟨n, rfl⟩ := pos_of hn
    have h27 := pw3 hd hw
    have hp3 := hT p (by omega)
    rw [e_X5_answerTuple_7, m1p, if_neg (nI_pos (by omega)), onPl hX (by omega), at_in (by omega) (by decide), hA _ hp3, h0]
    simp only [pk_mul, nI_add, z1]
    have e1 : nm d (fun q => T (dg 32 X (p + 1 + q))) r * d + T (dg 32 X p) = nm d (fun q => T (dg 32 X (p + q))) (r + 1) := by
      rw [nm_cons]
      have : nm d (fun q => T (dg 32 X (p + 1 + q))) r = nm d (fun q => T (dg 32 X (p + (q + 1)))) r := nm_cong fun k _ => by
        show T (dg 32 X (p + 1 + k)) = T (dg 32 X (p + (k + 1)))
        rw [show p + 1 + k = p + (k + 1) by omega]
      rw [this]
      rfl
    rw [e1]
    exact ansT_loop hd hX hn0 h0 hT hw hA p (r + 1) n (by omega) (by omega)
theorem ansT {k : Nat} {g : xG} {a : xA} {d w n0 : Nat} {T x : Nat → Nat} (h0 : g 0 = nI d) (hO : Opr d k w T g a) (hd : d = 2 ∨ d = 3) (hn0 : n0 ≤ 3) :
    f_X5_answerTuple k g a (nI (nm d (fun p => sp d (x p)) w)) (nI n0) = some (nI (apl d w T n0 x)) := by
  have hX := nm_sp_lt hd hO.2.2.2.1 x
  have hdg : ∀ j, j < 3 → dg 32 (nm d (fun p => sp d (x p)) w) j = nm d (fun p => dg d (x p) j) w := fun j hj => nm_sp hd hO.2.2.2.1 x (by omega)
  have := ansT_loop (k := k) (g := g) (a := a) (d := d) (w := w) (X := nm d (fun p => sp d (x p)) w) (n0 := n0) (T := T) hd (by omega) hn0 h0 (fun j hj => by
    rw [hdg j hj]
    exact nm_lt w (fun p _ => dg_lt (by omega) _ _)) hO.2.2.2.1 (fun p hp => (hO.2.2.2.2 p hp).1) n0 0 fu (by omega) (fu_gt (by omega))
  unfold f_X5_answerTuple
  rw [show nm d (fun q => T (dg 32 (nm d (fun p => sp d (x p)) w) (n0 + q))) 0 = 0 from rfl] at this
  simp only [z1, z0, m1s]
  rw [this]
  have e : nm d (fun q => T (dg 32 (nm d (fun p => sp d (x p)) w) q)) n0 = apl d w T n0 x := nm_cong fun j hj => by
    show T (dg 32 (nm d (fun p => sp d (x p)) w) j) = T (nm d (fun p => dg d (x p) j) w)
    rw [hdg j (by omega)]
  rw [e]
