/-! completed: what trying comes to. -/
theorem Ins_30 {d j V C : Nat} {cr P : Nat → Nat} {cv : Nat → Nat → Nat} {TC : Nat → Nat} {g : xG} {a : xA} (hI : Ins d j V C cr P cv TC g a) {f : Nat → Int32} : Ins d j V C cr P cv TC g (upA a (30 + 7 * j) f) := by
  have hj := hI.1
  exact Ins_fr hI rfl rfl (upA_n _ _ (by omega)) (upA_n _ _ (by omega)) (upA_n _ _ (by omega)) (upA_n _ _ (by omega)) (upA_n _ _ (by omega))
theorem Ins_29 {d j V C : Nat} {cr P : Nat → Nat} {cv : Nat → Nat → Nat} {TC : Nat → Nat} {g : xG} {a : xA} (hI : Ins d j V C cr P cv TC g a) {f : Nat → Int32} : Ins d j V C cr P cv TC g (upA a (29 + 7 * j) f) := by
  have hj := hI.1
  exact Ins_fr hI rfl rfl (upA_n _ _ (by omega)) (upA_n _ _ (by omega)) (upA_n _ _ (by omega)) (upA_n _ _ (by omega)) (upA_n _ _ (by omega))
theorem ci_loop {self : Nat → xG → xA → Int32 → Int32 → Option (Int32 × xA)} {d j V C : Nat} {cr P : Nat → Nat} {cv : Nat → Nat → Nat} {TC al : Nat → Nat} {g : xG} {k : Nat} (hd : d = 2 ∨ d = 3) (h0 : g 0 = nI d) (hS : CS self d j V C cr P cv TC al g k) (hk : k < V) (hV : V ≤ 6) {y : Nat → Nat} {most : Nat} (h1 : 1 ≤ most) (h7 : most ≤ 729) :
    ∀ (r u n : Nat) (a : xA), u + r = d → r < n → Ins d j V C cr P cv TC g a → (∀ v, v < 6 → a (29 + 7 * j) v = nI (al v) ∧ al v < 8) → (∀ v, k + 1 ≤ v → v < V → a (30 + 7 * j) v = nI (y v) ∧ y v < d) → (most = 1 → Fst d (k + 1) (fun c => GS d C P cv TC al (k + 1) (mix d (k + 1) y c)) (d ^ k * u) (a (30 + 7 * j))) →
    ∃ f, f_X2_completed_11 self j g n a (nI k) (nI most) (nI (min most (cb (fun c => GS d C P cv TC al (k + 1) (mix d (k + 1) y c)) (d ^ k * u)))) (nI u) = some (nI (min most (cb (fun c => GS d C P cv TC al (k + 1) (mix d (k + 1) y c)) (d ^ (k + 1)))), upA a (30 + 7 * j) f) ∧ (∀ v, k + 1 ≤ v → f v = a (30 + 7 * j) v) ∧ (most = 1 → Fst d (k + 1) (fun c => GS d C P cv TC al (k + 1) (mix d (k + 1) y c)) (d ^ (k + 1)) f)
  | 0, u, n, a, hu, hn, hI, ha, hy, hJ => by
    obtain ⟨n, rfl⟩ := pos_of hn
    have e : u = d := by omega
    subst e
    rw [← Nat.pow_succ] at hJ ⊢
    refine ⟨a (30 + 7 * j), ?_, fun _ _ => rfl, hJ⟩
    rw [e_X2_completed_11, h0, if_pos (nI_le (by omega) (by omega)), upA_id]
  | r + 1, u, n, a, hu, hn, hI, ha, hy, hJ => by
    obtain ⟨n, rfl⟩ := pos_of hn
    have hd0 : 0 < d := by omega
    have hud : u < d := by omega
    have hcu := cb_le (P := fun c => GS d C P cv TC al (k + 1) (mix d (k + 1) y c)) (d ^ k * u)
    have hpk := pw6 hd (w := k) (by omega)
    have hpk1 := pw6 hd (w := k + 1) (by omega)
    have hmul : d ^ k * (u + 1) = d ^ k * u + d ^ k := by rw [Nat.mul_add, Nat.mul_one]
    have hle : d ^ k * (u + 1) ≤ d ^ (k + 1) := by
      rw [Nat.pow_succ]
      exact Nat.mul_le_mul_left _ hud
    have hQ : ∀ c, c < d ^ k → (GS d C P cv TC al (k + 1) (mix d (k + 1) y (d ^ k * u + c)) ↔ (al k).testBit u = true ∧ (∀ c', c' < C → lowv (cv c') (P c') = k → hld d (P c') (TC c') (cv c') (fun i => if i = k then u else y i) = true) ∧ GS d C P cv TC al k (mix d k (fun i => if i = k then u else y i) c)) := fun c hc => by
      rw [mix_s hd0 hc hud]
      exact GS_s
    rw [e_X2_completed_11, h0, if_neg (nI_ge hud (by omega))]
    by_cases hm : most ≤ cb (fun c => GS d C P cv TC al (k + 1) (mix d (k + 1) y c)) (d ^ k * u)
    · have hmo := cb_mono (P := fun c => GS d C P cv TC al (k + 1) (mix d (k + 1) y c)) (show d ^ k * u ≤ d ^ (k + 1) by omega)
      refine ⟨a (30 + 7 * j), ?_, fun _ _ => rfl, fun q c hc hq hf => ?_⟩
      · rw [Nat.min_eq_left hm, if_pos (nI_le (Nat.le_refl _) (by omega)), upA_id, Nat.min_eq_left (by omega)]
      · obtain ⟨c0, k1, k2⟩ := cb_ex (P := fun c => GS d C P cv TC al (k + 1) (mix d (k + 1) y c)) (n := d ^ k * u) (by omega)
        rcases Nat.lt_or_ge c (d ^ k * u) with h | h
        · exact hJ q c h hq hf
        · exact absurd k2 (hf c0 (by omega))
    have hm' : cb (fun c => GS d C P cv TC al (k + 1) (mix d (k + 1) y c)) (d ^ k * u) < most := by omega
    obtain ⟨ak1, ak2⟩ := ha k (by omega)
    rw [Nat.min_eq_right (by omega), if_neg (nI_ge hm' (by omega)), at_in (by omega) (by decide), ak1, isIn_nI (by omega) (by omega), show nI u + 1 = nI (u + 1) from nI_1 u]
    have vac : (∀ c, c < d ^ k → ¬ GS d C P cv TC al (k + 1) (mix d (k + 1) y (d ^ k * u + c))) → cb (fun c => GS d C P cv TC al (k + 1) (mix d (k + 1) y c)) (d ^ k * (u + 1)) = cb (fun c => GS d C P cv TC al (k + 1) (mix d (k + 1) y c)) (d ^ k * u) ∧ ∀ f, most = 1 → Fst d (k + 1) (fun c => GS d C P cv TC al (k + 1) (mix d (k + 1) y c)) (d ^ k * (u + 1)) f := fun hv => by
      refine ⟨?_, fun f q c hc hq _ => ?_⟩
      · rw [hmul, cb_add, cb_no (P := fun c => GS d C P cv TC al (k + 1) (mix d (k + 1) y (d ^ k * u + c))) _ hv]
        rfl
      · exfalso
        rcases Nat.lt_or_ge c (d ^ k * u) with h | h
        · exact cb_of0 (d ^ k * u) (show cb (fun c => GS d C P cv TC al (k + 1) (mix d (k + 1) y c)) (d ^ k * u) = 0 by omega) c h hq
        · refine hv (c - d ^ k * u) (by omega) ?_
          rw [show d ^ k * u + (c - d ^ k * u) = c by omega]
          exact hq
    cases hb : (al k).testBit u with
    | false =>
      rw [if_pos (by decide)]
      obtain ⟨v1, v2⟩ := vac (fun c hc q => by
        have := ((hQ c hc).mp q).1
        rw [hb] at this
        cases this)
      have ih := ci_loop hd h0 hS hk hV h1 h7 r (u + 1) n a (by omega) (by omega) hI ha hy (v2 _)
      rw [v1, Nat.min_eq_right (by omega)] at ih
      exact ih
    | true =>
      rw [if_neg (by decide), put_in (by omega) (by decide)]
      obtain ⟨a1, ea1⟩ : ∃ a1, a1 = upA a (30 + 7 * j) (upd (a (30 + 7 * j)) k (nI u)) := ⟨_, rfl⟩
      rw [← ea1]
      have hI1 : Ins d j V C cr P cv TC g a1 := by rw [ea1]; exact Ins_30 hI
      have ha1 : ∀ v, v < 6 → a1 (29 + 7 * j) v = nI (al v) ∧ al v < 8 := by rw [ea1, upA_n _ _ (by omega)]; exact ha
      have h30 : a1 (30 + 7 * j) = upd (a (30 + 7 * j)) k (nI u) := by rw [ea1, upA_s]
      have hy1 : ∀ v, k ≤ v → v < V → a1 (30 + 7 * j) v = nI ((fun i => if i = k then u else y i) v) ∧ (fun i => if i = k then u else y i) v < d := fun v q1 q2 => by
        rw [h30]
        dsimp only
        by_cases he : v = k
        · rw [if_pos he, he, upd_s]
          exact ⟨rfl, hud⟩
        · rw [if_neg he, upd_n _ _ he]
          exact hy v (by omega) q2
      have hy2 : ∀ v, k + 1 ≤ v → v < V → a1 (30 + 7 * j) v = nI (y v) ∧ y v < d := fun v q1 q2 => by
        rw [h30, upd_n _ _ (by omega)]
        exact hy v q1 q2
      obtain ⟨b, e1, e2⟩ := hf_loop hd h0 hI1 (k := k) (by omega) hy1 C 0 fu (by omega) (fu_gt (by have := hI.2.2.1; omega))
      have e1' : f_X2_holdsFrom j g a1 (nI k) = some (if b = true then 1 else 0) := e1
      rw [e1', Option.bind_some]
      have fin : ∀ {x : Int32} {F : Nat → Int32}, (∃ f, f_X2_completed_11 self j g n (upA a1 (30 + 7 * j) F) (nI k) (nI most) x (nI (u + 1)) = some (nI (min most (cb (fun c => GS d C P cv TC al (k + 1) (mix d (k + 1) y c)) (d ^ (k + 1)))), upA (upA a1 (30 + 7 * j) F) (30 + 7 * j) f) ∧ (∀ v, k + 1 ≤ v → f v = upA a1 (30 + 7 * j) F (30 + 7 * j) v) ∧ (most = 1 → Fst d (k + 1) (fun c => GS d C P cv TC al (k + 1) (mix d (k + 1) y c)) (d ^ (k + 1)) f)) → (∀ v, k ≤ v → F v = a1 (30 + 7 * j) v) → ∃ f, f_X2_completed_11 self j g n (upA a1 (30 + 7 * j) F) (nI k) (nI most) x (nI (u + 1)) = some (nI (min most (cb (fun c => GS d C P cv TC al (k + 1) (mix d (k + 1) y c)) (d ^ (k + 1)))), upA a (30 + 7 * j) f) ∧ (∀ v, k + 1 ≤ v → f v = a (30 + 7 * j) v) ∧ (most = 1 → Fst d (k + 1) (fun c => GS d C P cv TC al (k + 1) (mix d (k + 1) y c)) (d ^ (k + 1)) f) := fun hh hF => by
        obtain ⟨f, q1, q2, q3⟩ := hh
        refine ⟨f, ?_, fun v hv => ?_, q3⟩
        · rw [q1, upA_2, ea1, upA_2]
        · rw [q2 v hv, upA_s, hF v (by omega), h30, upd_n _ _ (by omega)]
      cases hbb : b with
      | false =>
        rw [if_pos (by decide)]
        obtain ⟨v1, v2⟩ := vac (fun c hc q => by
          have := e2.mpr (fun c' _ q1 q2 => ((hQ c hc).mp q).2.1 c' q1 q2)
          rw [hbb] at this
          cases this)
        have ih := ci_loop hd h0 hS hk hV h1 h7 r (u + 1) n a1 (by omega) (by omega) hI1 ha1 hy2 (v2 _)
        rw [v1, Nat.min_eq_right (by omega)] at ih
        obtain ⟨f, q1, q2, q3⟩ := ih
        refine ⟨f, ?_, fun v hv => ?_, q3⟩
        · rw [q1, ea1, upA_2]
        · rw [q2 v hv, h30, upd_n _ _ (by omega)]
      | true =>
        rw [if_neg (by decide)]
        have hall := e2.mp hbb
        obtain ⟨f1, s1, s2, s3⟩ := hS a1 (fun i => if i = k then u else y i) (most - cb (fun c => GS d C P cv TC al (k + 1) (mix d (k + 1) y c)) (d ^ k * u)) (by omega) (by omega) hI1 ha1 hy1
        rw [show nI k - 1 = nI k + -nI 1 from m1s _, pk_sub (by omega), s1, Option.bind_some]
        dsimp only
        rw [nI_add]
        have ecb : cb (fun c => GS d C P cv TC al (k + 1) (mix d (k + 1) y c)) (d ^ k * (u + 1)) = cb (fun c => GS d C P cv TC al (k + 1) (mix d (k + 1) y c)) (d ^ k * u) + cb (fun c => GS d C P cv TC al k (mix d k (fun i => if i = k then u else y i) c)) (d ^ k) := by
          rw [hmul, cb_add]
          congr 1
          refine cb_cong _ (fun c hc => ?_)
          rw [hQ c hc]
          exact ⟨fun q => q.2.2, fun q => ⟨hb, fun c' q1 q2 => hall c' (Nat.zero_le _) q1 q2, q⟩⟩
        have hI2 : Ins d j V C cr P cv TC g (upA a1 (30 + 7 * j) f1) := Ins_30 hI1
        refine fin (F := f1) ?_ s2
        rw [show cb (fun c => GS d C P cv TC al (k + 1) (mix d (k + 1) y c)) (d ^ k * u) + min (most - cb (fun c => GS d C P cv TC al (k + 1) (mix d (k + 1) y c)) (d ^ k * u)) (cb (fun c => GS d C P cv TC al k (mix d k (fun i => if i = k then u else y i) c)) (d ^ k)) = min most (cb (fun c => GS d C P cv TC al (k + 1) (mix d (k + 1) y c)) (d ^ k * (u + 1))) by rw [ecb]; omega]
        refine ci_loop hd h0 hS hk hV h1 h7 r (u + 1) n (upA a1 (30 + 7 * j) f1) (by omega) (by omega) hI2 (by rw [upA_n _ _ (by omega)]; exact ha1) (fun v q1 q2 => by
          rw [upA_s, s2 v (by omega)]
          exact hy2 v q1 q2) (fun q c hc hq hf i hi => ?_)
        rw [upA_s]
        have hz : cb (fun c => GS d C P cv TC al (k + 1) (mix d (k + 1) y c)) (d ^ k * u) = 0 := by omega
        have hcge : d ^ k * u ≤ c := by
          rcases Nat.lt_or_ge c (d ^ k * u) with h | h
          · exact absurd hq (cb_of0 (d ^ k * u) hz c h)
          · exact h
        obtain ⟨c', rfl⟩ : ∃ c', c = d ^ k * u + c' := ⟨c - d ^ k * u, by omega⟩
        have hc' : c' < d ^ k := by omega
        by_cases he : i = k
        · rw [he, s2 k (Nat.le_refl _), h30, upd_s, dg_hi hd0 hc' hud]
        · have hik : i < k := by omega
          rw [dg_lo hd0 hik]
          exact s3 (by omega) c' hc' (((hQ c' hc').mp hq).2.2) (fun c'' h q1 => hf (d ^ k * u + c'') (by omega) ((hQ c'' (by omega)).mpr ⟨hb, fun c3 q2 q3 => hall c3 (Nat.zero_le _) q2 q3, q1⟩)) i hik
theorem completedX {d j V C : Nat} {cr P : Nat → Nat} {cv : Nat → Nat → Nat} {TC al : Nat → Nat} {g : xG} (hd : d = 2 ∨ d = 3) (h0 : g 0 = nI d) (hP : ∀ c, c < C → 1 ≤ P c) : ∀ (k n : Nat), k < n → k ≤ V → V ≤ 6 → CS (f_X2_completed n) d j V C cr P cv TC al g k
  | 0, n, hn, hkV, hV => by
    obtain ⟨n, rfl⟩ := pos_of hn
    intro a y most h1 h7 hI ha hy
    have hG : GS d C P cv TC al 0 (mix d 0 y 0) := ⟨fun i hi => by omega, fun c hc hl => by omega⟩
    have e1 : cb (fun c => GS d C P cv TC al 0 (mix d 0 y c)) (d ^ 0) = 1 := by
      rw [Nat.pow_zero, show (1 : Nat) = 0 + 1 from rfl, cb_1 (P := fun c => GS d C P cv TC al 0 (mix d 0 y c)) hG]
      rfl
    refine ⟨a (30 + 7 * j), ?_, fun _ _ => rfl, fun _ c hc _ _ i hi => by omega⟩
    rw [e1, Nat.min_eq_right h1, upA_id]
    show b_X2_completed (f_X2_completed n) j g a (nI 0 + -nI 1) (nI most) = _
    unfold b_X2_completed
    rw [if_neg (by decide)]
    rfl
  | k + 1, n, hn, hkV, hV => by
    obtain ⟨n, rfl⟩ := pos_of hn
    intro a y most h1 h7 hI ha hy
    have hS := completedX hd h0 hP k n (by omega) (by omega) hV (j := j) (V := V) (cr := cr) (cv := cv) (TC := TC) (al := al)
    obtain ⟨f, q1, q2, q3⟩ := ci_loop hd h0 hS (by omega) hV h1 h7 d 0 fu a (by omega) (fu_gt (by omega)) hI ha hy (fun _ c hc _ _ i hi => by
      rw [Nat.mul_zero] at hc
      omega)
    refine ⟨f, ?_, q2, q3⟩
    rw [← q1, m1p]
    show b_X2_completed (f_X2_completed n) j g a (nI k) (nI most) = _
    unfold b_X2_completed
    rw [if_pos (nI_pos' (by omega)), Nat.mul_zero]
    show _ = f_X2_completed_11 _ j g fu a (nI k) (nI most) (nI (min most 0)) (nI 0)
    rw [Nat.min_eq_right (Nat.zero_le _)]
    rfl
