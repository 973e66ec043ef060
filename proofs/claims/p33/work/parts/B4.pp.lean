/-! What keeps all relations keeps what is defined by them. -/
theorem eqm_apl {d w : Nat} (hd : d = 2 ∨ d = 3) {T : Nat → Nat} (hT : ∀ p, p < d ^ w → T p < d) : bdiff (im d w T 2 (eqm d)) (eqm d) = 0 := by
  have hd0 : 0 < d := by omega
  have key : ∀ x, (eqm d).testBit x = true → x < d * d ∧ x % d = x / d := fun x hx => by
    have hl : eqm d < 2 ^ (d * d) := by rcases hd with rfl | rfl <;> decide
    have h1 := bit_lt hl hx
    refine ⟨h1, ?_⟩
    have h2 : x / d < d := Nat.div_lt_of_lt_mul h1
    refine (eq_hld hd (Nat.mod_lt x hd0) h2).mp ?_
    rw [Nat.mod_add_div]
    exact hx
  refine bdiff_0.mpr fun i hi => ?_
  obtain ⟨x, x1, x2⟩ := (im_bit hd0 hT i).mp hi
  have e : ∀ p, p < w → dg d (x p) 0 = dg d (x p) 1 := fun p hp => by
    obtain ⟨k1, k2⟩ := key _ (x1 p hp)
    rw [dg_0]
    unfold dg
    rw [Nat.pow_one, Nat.mod_eq_of_lt (show x p / d < d from Nat.div_lt_of_lt_mul k1)]
    exact k2
  have e2 : nm d (fun p => dg d (x p) 0) w = nm d (fun p => dg d (x p) 1) w := nm_cong e
  rw [← x2]
  show (eqm d).testBit (nm d (fun j => T (nm d (fun p => dg d (x p) j) w)) 2) = true
  rw [nm2, e2]
  have hl := hT _ (nm_lt (f := fun p => dg d (x p) 1) w (fun p _ => dg_lt hd0 _ _))
  exact (eq_hld hd hl hl).mpr rfl
theorem pp_keep {d w C k S : Nat} {T P TC hd : Nat → Nat} {cv : Nat → Nat → Nat} (hd0 : 0 < d) (hT : ∀ p, p < d ^ w → T p < d) (hc : ∀ c, c < C → (∀ j, j < P c → cv c j < 6) ∧ TC c < 2 ^ (d ^ P c) ∧ bdiff (im d w T (P c) (TC c)) (TC c) = 0) (hh : ∀ i, i < k → hd i < 6) (hS : ∀ t, S.testBit t = true ↔ t < d ^ k ∧ QHZ d C P cv TC k hd (d ^ 6) t) : bdiff (im d w T k S) S = 0 := by
  refine bdiff_0.mpr fun i hi => ?_
  obtain ⟨x, x1, x2⟩ := (im_bit hd0 hT i).mp hi
  have hex : ∀ p, ∃ code, p < w → SolC d C P cv TC (dg d code) ∧ nm d (fun i => dg d code (hd i)) k = x p := fun p => by
    by_cases hp : p < w
    · obtain ⟨_, code, _, c2, c3⟩ := (hS _).mp (x1 p hp)
      exact ⟨code, fun _ => ⟨c2, c3⟩⟩
    · exact ⟨0, fun h => absurd h hp⟩
  obtain ⟨cd, hcd⟩ : ∃ cd : Nat → Nat, ∀ p, p < w → SolC d C P cv TC (dg d (cd p)) ∧ nm d (fun i => dg d (cd p) (hd i)) k = x p := ⟨fun p => Classical.choose (hex p), fun p hp => Classical.choose_spec (hex p) hp⟩
  have zl : ∀ v, T (nm d (fun p => dg d (cd p) v) w) < d := fun v => hT _ (nm_lt w (fun p _ => dg_lt hd0 _ _))
  obtain ⟨code, hcode⟩ : ∃ code, code = nm d (fun v => T (nm d (fun p => dg d (cd p) v) w)) 6 := ⟨_, rfl⟩
  have hcl : code < d ^ 6 := by rw [hcode]; exact nm_lt 6 (fun v _ => zl v)
  have hdg : ∀ v, v < 6 → dg d code v = T (nm d (fun p => dg d (cd p) v) w) := fun v hv => by rw [hcode]; exact nm_dg hd0 6 (fun v _ => zl v) v hv
  have hap : ∀ (n : Nat) (f y : Nat → Nat), (∀ j, j < n → f j < 6) → (∀ p, p < w → y p = nm d (fun j => dg d (cd p) (f j)) n) → apl d w T n y = nm d (fun j => dg d code (f j)) n := fun n f y hf hy => nm_cong fun j hj => by
    show T (nm d (fun p => dg d (y p) j) w) = dg d code (f j)
    rw [hdg _ (hf j hj)]
    congr 1
    refine nm_cong fun p hp => ?_
    show dg d (y p) j = dg d (cd p) (f j)
    rw [hy p hp]
    exact nm_dg hd0 n (fun _ _ => dg_lt hd0 _ _) j hj
  have hik : i = nm d (fun j => dg d code (hd j)) k := by
    rw [← x2]
    exact hap k hd x hh (fun p hp => (hcd p hp).2.symm)
  refine (hS i).mpr ⟨?_, code, hcl, fun c hcC => ?_, hik.symm⟩
  · rw [hik]
    exact nm_lt k (fun _ _ => dg_lt hd0 _ _)
  · obtain ⟨k1, k2, k3⟩ := hc c hcC
    show (TC c).testBit (nm d (fun p => dg d code (cv c p)) (P c)) = true
    rw [← hap (P c) (cv c) (fun p => nm d (fun j => dg d (cd p) (cv c j)) (P c)) k1 (fun _ _ => rfl)]
    exact bdiff_0.mp k3 _ ((im_bit hd0 hT _).mpr ⟨_, fun p hp => (hcd p hp).1 c hcC, rfl⟩)
section PP
variable {d R K V C : Nat} {pl tu ar cr : Nat → Nat} {an cv : Nat → Nat → Nat} {g : xG} {a : xA}
theorem ka5 {g0 : xG} {a0 : xA} (h : St d R K V C pl tu ar cr an cv g0 a0) {k m : Nat} (hk : k < K) (hm : m ≤ R) : ∀ (q r n : Nat) (b0 : Bool) (g : xG) (a : xA), r + q = m → q < n → Sm PX QX g0 a0 g a →
    ∃ (b : Bool) (g' : xG) (a' : xA), f_L_keepsAll_5 n g a (nI k) (nI m) (if b0 then 1 else 0) (nI r) = some ((if b then 1 else 0), g', a') ∧ Sm PX QX g0 a0 g' a' ∧ (b = true → b0 = true ∧ ∀ r', r ≤ r' → r' < m → bdiff (im d (ar k) (an k) (pl r') (tu r')) (tu r') = 0)
  | 0, r, n, b0, g, a, hr, hn, s => by
    obtain ⟨n, rfl⟩ := pos_of hn
    obtain ⟨-, -, hR8, -⟩ := St_b h
    refine ⟨b0, g, a, ?_, s, fun e => ⟨e, fun r' h1 h2 => by omega⟩⟩
    have hbo : boB (if b0 then (1 : Int32) else 0) = true := by cases b0 <;> decide
    rw [e_L_keepsAll_5, if_pos (nI_le (by omega) (by omega)), ck_t hbo]
  | q + 1, r, n, b0, g, a, hr, hn, s => by
    obtain ⟨n, rfl⟩ := pos_of hn
    obtain ⟨-, -, hR8, -⟩ := St_b h
    have hrm : r < m := by omega
    rw [e_L_keepsAll_5, if_neg (nI_ge hrm (by omega)), show nI r + 1 = nI (r + 1) from nI_1 r]
    cases b0 with
    | false =>
      obtain ⟨b, g', a', e1, e2, e3⟩ := ka5 h hk hm q (r + 1) n false g a (by omega) (by omega) s
      refine ⟨b, g', a', ?_, e2, fun e => ?_⟩
      · rw [if_pos (show (if false = true then (1 : Int32) else 0) = 0 from rfl)]
        exact e1
      · exact absurd (e3 e).1 (by decide)
    | true =>
      obtain ⟨g1, a1, k1, s1⟩ := q_keeps (St_fr h s) hk (r := r) (by omega)
      rw [if_neg (show ¬ (if true = true then (1 : Int32) else 0) = 0 by decide), k1, rgt_r, Option.bind_some]
      dsimp only
      by_cases z : bdiff (im d (ar k) (an k) (pl r) (tu r)) (tu r) = 0
      · obtain ⟨b, g', a', e1, e2, e3⟩ := ka5 h hk hm q (r + 1) n true g1 a1 (by omega) (by omega) (Sm_tr s s1)
        refine ⟨b, g', a', ?_, e2, fun e => ⟨rfl, fun r' h1 h2 => ?_⟩⟩
        · rw [if_pos z, if_neg (show ¬ nI 1 = 0 by decide)]
          exact e1
        · by_cases he : r' = r
          · rw [he]; exact z
          · exact (e3 e).2 r' (by omega) h2
      · obtain ⟨b, g', a', e1, e2, e3⟩ := ka5 h hk hm q (r + 1) n false g1 a1 (by omega) (by omega) (Sm_tr s s1)
        refine ⟨b, g', a', ?_, e2, fun e => absurd (e3 e).1 (by decide)⟩
        rw [if_neg z, if_pos (show nI 0 = 0 from rfl)]
        exact e1
theorem q_keepsAll (h : St d R K V C pl tu ar cr an cv g a) {k m : Nat} (hk : k < K) (hm : m ≤ R) : ∃ (b : Bool) (g' : xG) (a' : xA), f_L_keepsAll g a (nI k) (nI m) = some ((if b then 1 else 0), g', a') ∧ Sm PX QX g a g' a' ∧ (b = true → ∀ r, r < m → bdiff (im d (ar k) (an k) (pl r) (tu r)) (tu r) = 0) := by
  obtain ⟨-, -, hR8, -⟩ := St_b h
  obtain ⟨b, g', a', e1, e2, e3⟩ := ka5 h hk hm m 0 fu true g a (by omega) (fu_gt (by omega)) Sm_rfl
  exact ⟨b, g', a', e1, e2, fun e r hr => (e3 e).2 r (Nat.zero_le _) hr⟩
end PP
