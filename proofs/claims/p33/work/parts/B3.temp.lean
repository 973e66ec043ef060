/-! The least relation around tuples has them; what a template has. -/
theorem prj_img {d w q n s c : Nat} {T : Nat → Nat} (hd : 0 < d) (hq : q < w) (hT : ∀ p, p < d ^ w → T p = dg d p q) (hs : s < 2 ^ (d ^ n)) (h : Img d w T n s c) : s.testBit c = true := by
  obtain ⟨x, h1, h2⟩ := h
  have hx := h1 q hq
  have hxl := bit_lt hs hx
  have e : apl d w T n x = nm d (dg d (x q)) n := nm_cong fun j _ => by
    show T (nm d (fun p => dg d (x p) j) w) = dg d (x q) j
    rw [hT _ (nm_lt w (fun p _ => dg_lt hd _ _))]
    exact nm_dg hd w (fun p _ => dg_lt hd _ _) q hq
  rw [e, dg_nm hd n (x q) hxl] at h2
  rw [← h2]
  exact hx
theorem prj_keep {d w q n s : Nat} {T : Nat → Nat} (hd : 0 < d) (hq : q < w) (hT : ∀ p, p < d ^ w → T p = dg d p q) (hs : s < 2 ^ (d ^ n)) : bdiff (im d w T n s) s = 0 :=
  bdiff_0.mpr fun i hi => prj_img hd hq hT hs ((im_bit hd (fun p hp => by rw [hT p hp]; exact dg_lt hd _ _) i).mp hi)
theorem pc_get {s t : Nat} : ∀ n, t < n → s.testBit t = true → pc s t < pc s n
  | 0, h, _ => by omega
  | n + 1, h, hb => by
    have e : pc s (n + 1) = pc s n + if s.testBit n then 1 else 0 := rfl
    by_cases ht : t = n
    · subst ht
      rw [e, if_pos hb]
      omega
    · have := pc_get n (by omega) hb
      rw [e]
      omega
theorem lg_0 {x y : Int64} : lg_cmp x y = 0 ↔ x = y := by
  unfold lg_cmp
  constructor
  · intro h
    by_cases h1 : x > y
    · rw [if_pos h1] at h
      exact absurd h (by decide)
    · rw [if_neg h1] at h
      by_cases h2 : x = y
      · exact h2
      · rw [if_neg h2] at h
        exact absurd h (by decide)
  · intro h
    subst h
    rw [if_neg (by intro h; exact absurd h (by simp)), if_pos rfl]
section TE
variable {d R K V C : Nat} {pl tu ar cr : Nat → Nat} {an cv : Nat → Nat → Nat} {g : xG} {a : xA}
theorem St_x (h : St d R K V C pl tu ar cr an cv g a) : RX d R pl tu g a := by
  obtain ⟨T, ch, gm, am, hB, h0, hR, hK, hT, hI⟩ := h
  exact RX_of hR
theorem St_ok (h : St d R K V C pl tu ar cr an cv g a) : OKs d K ar an g a := by
  obtain ⟨T, ch, gm, am, hB, h0, hR, hK, hT, hI⟩ := h
  exact OKs_of hK
theorem q_around (h : St d R K V C pl tu ar cr an cv g a) {r : Nat} (hr : r < R) : f_X11_around g a (nI r) = some (.inl (2, g, a)) ∨ ∃ X g' a', f_X11_around g a (nI r) = some (.inr (nI X, g', a')) ∧ Sm PX QX g a g' a' ∧ X < 512 ∧ (∀ i, (tu r).testBit i = true → X.testBit i = true) ∧ (tu r = 0 → X = 0) := by
  obtain ⟨hB, hd, hR8, h1, hK6, h4, -⟩ := St_b h
  obtain ⟨r1, r3, r5, r6, r7, h9, h5⟩ := St_r h hr
  have hX := St_x h
  have hd0 : 0 < d := by omega
  obtain ⟨w, hw⟩ : ∃ w, w = pc (tu r) 31 := ⟨_, rfl⟩
  have hw31 : w ≤ 31 := by rw [hw]; exact pc_le _ _
  obtain ⟨lim, hlim⟩ : ∃ lim : Nat, lim = if d = 2 then 3 else 2 := ⟨_, rfl⟩
  have hl3 : lim ≤ 3 := by rw [hlim]; split <;> decide
  have ex : f_X11_around g a (nI r) = if w ≤ lim then Option.bind (f_X3_leastAround g a (nI r)) (fun u4 => some (.inr (u4.1, u4.2.1, u4.2.2))) else some (.inl (2, g, a)) := by
    have e48 : ∀ s0 : Nat, s0 < 4 → f_X11_around_48 g a (nI r) (nI s0) (nI w) = if w ≤ s0 then Option.bind (f_X3_leastAround g a (nI r)) (fun u4 => some (.inr (u4.1, u4.2.1, u4.2.2))) else some (.inl (2, g, a)) := fun s0 hs => by
      unfold f_X11_around_48
      by_cases h : w ≤ s0
      · rw [if_pos h, if_pos (nI_le h (by omega))]
      · rw [if_neg h, if_neg (nI_ge (by omega) (by omega))]
    unfold f_X11_around
    rw [if_neg (St_th h hr), hB.2.1, tuOf (by omega) r3, bc9 (by omega), ← hw, hlim]
    rcases hd with rfl | rfl
    · rw [if_pos (show nI 2 = 2 from rfl), if_pos rfl]
      exact e48 3 (by decide)
    · rw [if_neg (show ¬ nI 3 = 2 by decide), if_neg (show ¬ (3 = 2) by decide)]
      exact e48 2 (by decide)
  by_cases hwl : w ≤ lim
  · rw [if_pos hwl] at ex
    by_cases hw0 : w = 0
    · refine Or.inr ⟨0, g, a, ?_, Sm_rfl, by decide, fun i hi => ?_, fun _ => rfl⟩
      · rw [ex]
        unfold f_X3_leastAround
        rw [tuOf (by omega) r3, bc9 (by omega), ← hw, hw0, if_neg (show ¬ (1 : Int32) ≤ nI 0 by decide), Option.bind_some]
        rfl
      · have := pc_get (s := tu r) 31 (by have := bit_lt (n := 9) h5 hi; omega) hi
        omega
    · obtain ⟨mem, hmem⟩ := mem_ex (tu r) 31
      obtain ⟨X, g', a', x1, x2, x3⟩ := aroundX hB hX hr hw (by omega) (by omega) hmem
      refine Or.inr ⟨X, g', a', by rw [ex, x1, Option.bind_some], Sm_mo x2 (by decide) (by decide), bits_lt (n := 9) fun i hi => ?_, fun t ht => ?_, fun e => ?_⟩
      · have := ((x3 i).mp hi).1
        omega
      · have ht9 := bit_lt (n := 9) h5 ht
        have htd := bit_lt r7 ht
        have hq := pc_get (s := tu r) 31 (by omega) ht
        have hc : nm d (fun p => dg d p (pc (tu r) t)) (d ^ w) < d ^ (d ^ w) := nm_lt _ (fun p _ => dg_lt hd0 _ _)
        have hT : ∀ p, p < d ^ w → dg d (nm d (fun p => dg d p (pc (tu r) t)) (d ^ w)) p = dg d p (pc (tu r) t) := fun p hp => nm_dg hd0 (d ^ w) (fun p _ => dg_lt hd0 _ _) p hp
        refine (x3 t).mpr ((AR_code hd).mpr ⟨_, hc, fun r' q1 q2 => ?_, ?_⟩)
        · obtain ⟨-, -, -, -, r7', -, -⟩ := St_r h q1
          exact prj_keep hd0 (by omega) hT r7'
        · have e : apl d w (dg d (nm d (fun p => dg d p (pc (tu r) t)) (d ^ w))) (pl r) mem = nm d (dg d t) (pl r) := nm_cong fun j _ => by
            show dg d (nm d (fun p => dg d p (pc (tu r) t)) (d ^ w)) (nm d (fun p => dg d (mem p) j) w) = dg d t j
            rw [hT _ (nm_lt w (fun p _ => dg_lt hd0 _ _)), nm_dg hd0 w (fun p _ => dg_lt hd0 _ _) _ (by omega), hmem t (by omega) ht]
          rw [e, dg_nm hd0 (pl r) t htd]
      · have : pc (tu r) 31 = 0 := by rw [e]; decide
        omega
  · rw [if_neg hwl] at ex
    exact Or.inl ex
theorem sur4 {g0 : xG} {a0 : xA} (h : St d R K V C pl tu ar cr an cv g0 a0) : ∀ (m r n : Nat) (g : xG) (a : xA), r + m = 3 → r ≤ R → m < n → Sm PX QX g0 a0 g a →
    ∃ g' a', f_L_surrounded_4 n g a (nI R) 1 (nI r) = some (1, g', a') ∧ Sm PX QX g0 a0 g' a'
  | 0, r, n, g, a, hr, hrR, hn, s => by
    obtain ⟨n, rfl⟩ := pos_of hn
    have e : r = 3 := by omega
    subst e
    refine ⟨g, a, ?_, s⟩
    rw [e_L_surrounded_4, ck_t (inB_t (by decide) (by decide))]
    by_cases q : nI R ≤ nI 3
    · rw [if_pos q, ck_t bo1]
    · rw [if_neg q, if_pos (show (3 : Int32) ≤ nI 3 from nI_le (Nat.le_refl 3) (by decide)), ck_t bo1]
  | m + 1, r, n, g, a, hr, hrR, hn, s => by
    obtain ⟨n, rfl⟩ := pos_of hn
    obtain ⟨hB, hd, hR8, -⟩ := St_b h
    by_cases q : r = R
    · refine ⟨g, a, ?_, s⟩
      rw [e_L_surrounded_4, ck_t (inB_t (by omega) (by decide)), q, if_pos (nI_le (Nat.le_refl _) (by omega)), ck_t bo1]
    have hrR' : r < R := by omega
    obtain ⟨-, -, -, -, -, -, h5⟩ := St_r h hrR'
    have step : ∀ (g1 : xG) (a1 : xA), Sm PX QX g0 a0 g1 a1 → ∃ g' a', f_L_surrounded_4 n g1 a1 (nI R) 1 (nI r + 1) = some (1, g', a') ∧ Sm PX QX g0 a0 g' a' := fun g1 a1 s1 => by
      rw [show nI r + 1 = nI (r + 1) from nI_1 r]
      exact sur4 h m (r + 1) n g1 a1 (by omega) (by omega) (by omega) s1
    have hd1 : f_L_surrounded_4 (n + 1) g a (nI R) 1 (nI r) = Option.bind (f_L_surrounds g a (nI r)) (fun u10 => (if u10.1 = (-9) then f_L_surrounded_4 n u10.2.1 u10.2.2 (nI R) 1 (nI r + 1) else (if (u10.1 &&& nI (tu r)) = nI (tu r) then (if nI (tu r) = 0 then (if u10.1 = 0 then f_L_surrounded_4 n u10.2.1 u10.2.2 (nI R) 1 (nI r + 1) else f_L_surrounded_4 n u10.2.1 u10.2.2 (nI R) 0 (nI r + 1)) else f_L_surrounded_4 n u10.2.1 u10.2.2 (nI R) 1 (nI r + 1)) else f_L_surrounded_4 n u10.2.1 u10.2.2 (nI R) 0 (nI r + 1)))) := by
      rw [e_L_surrounded_4, ck_t (inB_t (by omega) (by decide)), if_neg (nI_ge hrR' (by omega)), if_neg (show ¬ (3 : Int32) ≤ nI r from nI_ge (a := r) (b := 3) (by omega) (by decide)), if_neg (show ¬ (1 : Int32) = 0 by decide), ofr1 (St_fr h s) hrR', rgt_r, Option.bind_some]
    rcases q_around (St_fr h s) hrR' with e | ⟨X, g1, a1, e, s1, x1, x2, x3⟩
    · obtain ⟨g', a', k1, k2⟩ := step g a s
      refine ⟨g', a', ?_, k2⟩
      rw [hd1]
      unfold f_L_surrounds
      rw [e, Option.bind_some]
      dsimp only [Sum.elim]
      rw [if_pos rfl, Option.bind_some]
      dsimp only
      rw [if_pos rfl]
      exact k1
    · obtain ⟨g', a', k1, k2⟩ := step g1 a1 (Sm_tr s s1)
      refine ⟨g', a', ?_, k2⟩
      have hne : ¬ nI X = -9 := fun e => by
        have : (-9 : Int32) < 0 := by decide
        exact nI_pos (n := X) (by omega) (by rw [e]; exact this)
      have hand : nI X &&& nI (tu r) = nI (tu r) := by
        rw [nI_and]
        congr 1
        refine set_ext fun i => ?_
        rw [and_bit]
        exact ⟨fun q => q.2, fun q => ⟨x2 i q, q⟩⟩
      rw [hd1]
      unfold f_L_surrounds
      rw [e, Option.bind_some]
      dsimp only [Sum.elim]
      rw [Option.bind_some]
      dsimp only
      rw [if_neg hne, if_pos hand]
      by_cases z : tu r = 0
      · rw [z, x3 z, if_pos (show nI 0 = 0 from rfl), if_pos (show nI 0 = 0 from rfl)]
        exact k1
      · rw [if_neg (nI_ne0 (by omega) (by omega))]
        exact k1
theorem q_surrounded (h : St d R K V C pl tu ar cr an cv g a) : ∃ g' a', f_L_surrounded g a (nI R) = some (1, g', a') ∧ Sm PX QX g a g' a' :=
  sur4 h 3 0 fu g a (by omega) (by omega) (fu_gt (by omega)) Sm_rfl
theorem vs_bit {T : Nat → Nat} (i : Nat) : ∀ n, (vs T n).testBit i = true ↔ ∃ p, p < n ∧ T p = i
  | 0 => by
    show (0 : Nat).testBit i = true ↔ _
    rw [Nat.zero_testBit]
    exact ⟨fun q => absurd q (by decide), fun ⟨p, q, _⟩ => absurd q (Nat.not_lt_zero p)⟩
  | n + 1 => by
    show (vs T n ||| 2 ^ T n).testBit i = true ↔ _
    rw [or_bit, vs_bit i n]
    constructor
    · rintro (⟨p, q1, q2⟩ | q)
      · exact ⟨p, by omega, q2⟩
      · exact ⟨n, by omega, q⟩
    · rintro ⟨p, q1, q2⟩
      by_cases hp : p = n
      · subst hp
        exact Or.inr q2
      · exact Or.inl ⟨p, by omega, q2⟩
theorem pc_1 {s i n : Nat} (hi : i < n) (h : s.testBit i = true) : 1 ≤ pc s n := by
  have := pc_get n hi h
  omega
theorem pc_2 {s i j n : Nat} (hij : i < j) (hj : j < n) (h1 : s.testBit i = true) (h2 : s.testBit j = true) : 2 ≤ pc s n := by
  have e1 := pc_get n hj h2
  have e2 := pc_get j hij h1
  omega
theorem vs_1 {T : Nat → Nat} {n : Nat} (hn : 1 ≤ n) (hT : ∀ p, p < n → T p < 31) (h : pc (vs T n) 31 = 1) : ∀ p, p < n → T p = T 0 := fun p hp => by
  have h1 : (vs T n).testBit (T p) = true := (vs_bit _ n).mpr ⟨p, hp, rfl⟩
  have h2 : (vs T n).testBit (T 0) = true := (vs_bit _ n).mpr ⟨0, hn, rfl⟩
  rcases Nat.lt_trichotomy (T p) (T 0) with q | q | q
  · have := pc_2 q (hT 0 hn) h1 h2
    omega
  · exact q
  · have := pc_2 q (hT p hp) h2 h1
    omega
theorem vs_const {v n : Nat} {T : Nat → Nat} (hn : 1 ≤ n) (hv : v < 3) (hT : ∀ p, p < n → T p = v) : pc (vs T n) 31 = 1 := by
  have e : vs T n = 2 ^ v := set_ext fun i => by
    rw [vs_bit, Nat.testBit_two_pow, decide_eq_true_iff]
    exact ⟨fun ⟨p, q1, q2⟩ => by rw [← q2, hT p q1], fun q => ⟨0, hn, by rw [hT 0 hn, q]⟩⟩
  rw [e]
  have : ∀ v, v < 3 → pc (2 ^ v) 31 = 1 := by decide +kernel
  exact this v hv
theorem mn_all : ∀ (n c : Nat), c < n → Kp d R pl tu 1 (dg d c) → mn d R pl tu n ≤ pc (vs (dg d c) d) 31
  | 0, c, hc, _ => by omega
  | n + 1, c, hc, hk => by
    by_cases he : c = n
    · subst he
      rw [mn_1 hk]
      split <;> omega
    · have := mn_all n c (by omega) hk
      by_cases hn : Kp d R pl tu 1 (dg d n)
      · rw [mn_1 hn]
        split <;> omega
      · rw [mn_0 hn]
        exact this
theorem mn_ex : ∀ n : Nat, mn d R pl tu n = d ∨ ∃ c, c < n ∧ Kp d R pl tu 1 (dg d c) ∧ mn d R pl tu n = pc (vs (dg d c) d) 31
  | 0 => Or.inl rfl
  | n + 1 => by
    have up : (mn d R pl tu n = d ∨ ∃ c, c < n ∧ Kp d R pl tu 1 (dg d c) ∧ mn d R pl tu n = pc (vs (dg d c) d) 31) → mn d R pl tu (n + 1) = mn d R pl tu n → mn d R pl tu (n + 1) = d ∨ ∃ c, c < n + 1 ∧ Kp d R pl tu 1 (dg d c) ∧ mn d R pl tu (n + 1) = pc (vs (dg d c) d) 31 := fun q e => by
      rw [e]
      exact q.imp id fun ⟨c, q1, q2⟩ => ⟨c, by omega, q2⟩
    by_cases hn : Kp d R pl tu 1 (dg d n)
    · by_cases hl : pc (vs (dg d n) d) 31 < mn d R pl tu n
      · exact Or.inr ⟨n, by omega, hn, by rw [mn_1 hn, if_pos hl]⟩
      · exact up (mn_ex n) (by rw [mn_1 hn, if_neg hl])
    · exact up (mn_ex n) (mn_0 hn)
theorem pw1 (d : Nat) : d ^ 1 = d := Nat.pow_one d
theorem core_1 (hd : d = 2 ∨ d = 3) : 1 ≤ mn d R pl tu (d ^ d) ∧ (mn d R pl tu (d ^ d) = 1 ↔ ∃ v, v < d ∧ Kp d R pl tu 1 (fun _ => v)) := by
  have hd0 : 0 < d := by omega
  have one : ∀ c, 1 ≤ pc (vs (dg d c) d) 31 := fun c => pc_1 (i := dg d c 0) (by have := dg_lt hd0 c 0; omega) ((vs_bit _ d).mpr ⟨0, hd0, rfl⟩)
  have h1 : 1 ≤ mn d R pl tu (d ^ d) := by
    rcases mn_ex (d := d) (R := R) (pl := pl) (tu := tu) (d ^ d) with e | ⟨c, _, _, e⟩
    · omega
    · rw [e]
      exact one c
  refine ⟨h1, fun e1 => ?_, fun ⟨v, hv, hk⟩ => ?_⟩
  · rcases mn_ex (d := d) (R := R) (pl := pl) (tu := tu) (d ^ d) with e | ⟨c, hc, hk, e⟩
    · omega
    · rw [e1] at e
      have hall := vs_1 (T := dg d c) hd0 (fun p _ => by have := dg_lt hd0 c p; omega) e.symm
      refine ⟨dg d c 0, dg_lt hd0 _ _, (Kp_cong hd0 (fun p _ => dg_lt hd0 _ _) (fun p hp => ?_)).mp hk⟩
      rw [pw1] at hp
      exact hall p hp
  · have hc : nm d (fun _ => v) d < d ^ d := nm_lt d (fun _ _ => hv)
    have hT : ∀ p, p < d → dg d (nm d (fun _ => v) d) p = v := fun p hp => nm_dg hd0 d (fun _ _ => hv) p hp
    have hk2 : Kp d R pl tu 1 (dg d (nm d (fun _ => v) d)) := (Kp_cong hd0 (fun _ _ => hv) (fun p hp => by
      rw [pw1] at hp
      exact (hT p hp).symm)).mp hk
    have := mn_all (d ^ d) _ hc hk2
    rw [vs_const hd0 (by omega) hT] at this
    omega
theorem q_ends (h : St d R K V C pl tu ar cr an cv g a) : ∃ x g' a', f_X11_ends g a = some (nI x, g', a') ∧ Sm PX QX g a g' a' ∧ 1 ≤ x ∧ x < 100 := by
  obtain ⟨hB, hd, hR8, h1, hK6, h4, -⟩ := St_b h
  have hd0 : 0 < d := by omega
  have h27 := pw3 hd (w := d) (by omega)
  obtain ⟨g', a', e1, e2⟩ := ce4 (d ^ d) 0 fu g a (by omega) (fu_gt (by omega)) hB (St_x h)
  have hle := cb_le (P := fun c => Kp d R pl tu 1 (dg d c)) (d ^ d)
  refine ⟨cb (fun c => Kp d R pl tu 1 (dg d c)) (d ^ d), g', a', ?_, Sm_mo e2 (by decide) (by decide), ?_, by omega⟩
  · unfold f_X11_ends f_X3_countEnds
    rw [show f_X3_countEnds_4 fu g a 0 0 = _ from e1, Option.bind_some]
  · have hc : nm d (fun j => j) d < d ^ d := nm_lt d (fun k hk => hk)
    refine cb_pos (P := fun c => Kp d R pl tu 1 (dg d c)) hc (fun r hr => ?_)
    obtain ⟨-, -, -, -, r7, -, -⟩ := St_r h hr
    refine prj_keep (q := 0) hd0 (by decide) (fun p hp => ?_) r7
    rw [pw1] at hp
    rw [nm_dg hd0 d (fun k hk => hk) p hp, dg_0, Nat.mod_eq_of_lt hp]
theorem q_core (h : St d R K V C pl tu ar cr an cv g a) : ∃ g' a', f_X11_core g a = some (nI (mn d R pl tu (d ^ d)), g', a') ∧ Sm PX QX g a g' a' := by
  obtain ⟨hB, hd, hR8, h1, hK6, h4, -⟩ := St_b h
  have h27 := pw3 hd (w := d) (by omega)
  obtain ⟨g', a', e1, e2⟩ := fe10 (d ^ d) 0 fu g a (by omega) (fu_gt (by omega)) hB (St_x h)
  refine ⟨g', a', ?_, Sm_mo e2 (by decide) (by decide)⟩
  unfold f_X11_core f_X3_fewestEndValues
  rw [hB.2.1, show f_X3_fewestEndValues_10 fu g a (nI d) 0 = _ from e1, Option.bind_some]
theorem q_first0 (h : St d R K V C pl tu ar cr an cv g a) : ∃ x g' a', f_X11_first g a 0 = some (.inr (x, g', a')) ∧ Sm PX QX g a g' a' ∧ (x = -1 ↔ ¬ ∃ v, v < d ∧ Kp d R pl tu 1 (fun _ => v)) := by
  obtain ⟨hB, hd, hR8, h1, hK6, h4, -⟩ := St_b h
  obtain ⟨x, g', a', x1, x2, x3⟩ := constX hB (St_x h)
  refine ⟨x, g', a', ?_, Sm_mo x2 (by decide) (by decide), ?_⟩
  · unfold f_X11_first
    rw [if_pos rfl, x1, Option.bind_some]
  · rcases x3 with ⟨e, q⟩ | ⟨v, v1, v2, v3, e⟩
    · exact ⟨fun _ ⟨v, v1, v2⟩ => q v v1 v2, fun _ => e⟩
    · refine ⟨fun q => ?_, fun q => absurd ⟨v, v1, v2⟩ q⟩
      have hl : nm d (fun _ => v) (d ^ 1) < 27 := by
        have q1 := nm_lt (d := d) (f := fun _ => v) (d ^ 1) (fun _ _ => v1)
        have q2 := pw3 hd (w := d) (by omega)
        rw [pw1] at q1 ⊢
        omega
      have key : ∀ n, n < 27 → ¬ lN n = -1 := by decide +kernel
      exact absurd (e.symm.trans q) (key _ hl)
theorem q_first3 (h : St d R K V C pl tu ar cr an cv g a) : ∃ x g' a', f_X11_first g a 3 = some (.inr (x, g', a')) ∧ Sm PX QX g a g' a' ∧ ((x = -1 ∧ ¬ Kp d R pl tu 3 (TA d)) ∨ (Kp d R pl tu 3 (TA d) ∧ x = lN (nm d (TA d) (d ^ 3)))) := by
  obtain ⟨hB, hd, hR8, h1, hK6, h4, -⟩ := St_b h
  obtain ⟨x, g', a', x1, x2, x3⟩ := sumX hB (St_x h)
  refine ⟨x, g', a', ?_, Sm_mo x2 (by decide) (by decide), ?_⟩
  · unfold f_X11_first
    rw [if_neg (show ¬ (3 : Int32) = 0 by decide), if_neg (show ¬ (3 : Int32) = 1 by decide), if_neg (show ¬ (3 : Int32) = 2 by decide), if_pos rfl, x1, Option.bind_some]
  · rcases x3 with ⟨e, q⟩ | ⟨v, v1, v2, v3, e⟩
    · exact Or.inl ⟨e, q 0 (by decide)⟩
    · exact Or.inr ⟨v2, e⟩
theorem q_monoid (h : St d R K V C pl tu ar cr an cv g a) : ∃ x g' a', f_X11_monoid g a = some (nI x, g', a') ∧ Sm PX QX g a g' a' ∧ 1 ≤ x ∧ x < 100 := by
  obtain ⟨hB, hd, hR8, h1, hK6, h4, -⟩ := St_b h
  have hd0 : 0 < d := by omega
  have h27 := pw3 hd (w := d) (by omega)
  have hidn : nm d (fun j => j) d < d ^ d := nm_lt d (fun k hk => hk)
  obtain ⟨idn, hid⟩ : ∃ idn, idn = nm d (fun j => j) d := ⟨_, rfl⟩
  rw [← hid] at hidn
  obtain ⟨z, g', a', x1, x2, x3, x4⟩ := closX (mp := 1) (n0 := d) (st := 2 ^ idn) (by omega) h27 (by decide) hB (St_ok h) (Nat.pow_lt_pow_right (by decide) hidn)
  have hz : z.testBit idn = true := (x4 idn).mpr (LC_st (by rw [Nat.testBit_two_pow, decide_eq_true_iff]))
  have hle := pc_le z 31
  refine ⟨pc z 31, g', a', ?_, SmPX x2, pc_1 (i := idn) (by omega) hz, by omega⟩
  unfold f_X11_monoid f_X6_unaryOnes
  have := un4 hB d 0 fu (by omega) (fu_gt (by omega))
  rw [← hid, shl_nI (by omega), show f_X6_closure g a (nI d) (nI (2 ^ idn)) 1 = _ from x1, Option.bind_some] at this
  rw [show f_X6_unaryOnes_4 fu g a 0 0 = _ from this, Option.bind_some]
  dsimp only
  rw [bc27 (Nat.lt_of_lt_of_le x3 (Nat.pow_le_pow_right (by decide) h27))]
theorem q_kept (h : St d R K V C pl tu ar cr an cv g a) {j : Nat} (hj : j = 1 ∨ j = 2) : ∃ x g' a', f_X11_kept g a (nI j) = some (.inr (nI x, g', a')) ∧ Sm PX QX g a g' a' ∧ 2 ≤ x ∧ x < 1000 := by
  obtain ⟨hB, hd, hR8, h1, hK6, h4, -⟩ := St_b h
  have hd0 : 0 < d := by omega
  have hO := St_ok h
  have hj9 : d ^ j ≤ 9 := pw9 hd (by omega)
  have hdj := pwp hd j
  have hp : 2 ^ (d ^ j) ≤ 2 ^ 9 := Nat.pow_le_pow_right (by decide) hj9
  have hp2 : 2 ^ 1 ≤ 2 ^ (d ^ j) := Nat.pow_le_pow_right (by decide) hdj
  obtain ⟨g', a', e1, e2⟩ := ck24 (K := K) (ar := ar) (an := an) (n0 := j) (by omega) hj9 (2 ^ (d ^ j)) 0 fu g a (by omega) (fu_gt (by omega)) hB hO (fun s h => by omega)
  have hle := cb_le (P := fun s => bdiff (imA d K ar an j s) s = 0) (2 ^ (d ^ j))
  refine ⟨cb (fun s => bdiff (imA d K ar an j s) s = 0) (2 ^ (d ^ j)), g', a', ?_, Sm_mo e2 (by decide) (by decide), ?_, by omega⟩
  · have hlim : (if (512 : Int32) < ((1 : Int32) <<< ((t_X4_power g a (nI j)) &&& 31)) then (512 : Int32) else ((1 : Int32) <<< ((t_X4_power g a (nI j)) &&& 31))) = nI (2 ^ (d ^ j)) := by
      rw [power_B hB (by omega), shl_nI (by omega), if_neg (show ¬ (512 : Int32) < nI (2 ^ (d ^ j)) from nI_nlt (a := 512) (b := 2 ^ (d ^ j)) (by omega) (by decide))]
    have e20 : f_X11_kept_20 g a (nI j) = some (.inr (nI (cb (fun s => bdiff (imA d K ar an j s) s = 0) (2 ^ (d ^ j))), g', a')) := by
      unfold f_X11_kept_20 f_X6_countKept
      rw [hlim]
      rw [show f_X6_countKept_24 fu g a (nI j) 0 (nI (2 ^ (d ^ j))) 0 = _ from e1, Option.bind_some]
    unfold f_X11_kept
    rcases hj with rfl | rfl
    · rw [if_pos (show nI 1 = 1 from rfl), e20]
    · rw [if_neg (show ¬ nI 2 = 1 by decide), if_pos (show nI 2 = 2 from rfl), e20]
  · have p0 : bdiff (imA d K ar an j 0) 0 = 0 := bdiff_0.mpr fun i hi => by
      obtain ⟨k, k1, x, x1, x2⟩ := (imA_bit hd0 hO i).mp hi
      have := x1 0 (hO.2.2 k k1).2.2.1
      rw [Nat.zero_testBit] at this
      cases this
    have p1 : bdiff (imA d K ar an j (2 ^ (d ^ j) - 1)) (2 ^ (d ^ j) - 1) = 0 := bdiff_0.mpr fun i hi => by
      have := bit_lt (imA_lt d K ar an j _) hi
      rw [Nat.testBit_two_pow_sub_one]
      exact decide_eq_true this
    have e := cb_add (P := fun s => bdiff (imA d K ar an j s) s = 0) 1 (2 ^ (d ^ j) - 1)
    have c1 : 0 < cb (fun s => bdiff (imA d K ar an j s) s = 0) 1 := cb_pos (k := 0) (by decide) p0
    have c2 : 0 < cb (fun c => bdiff (imA d K ar an j (1 + c)) (1 + c) = 0) (2 ^ (d ^ j) - 1) := cb_pos (k := 2 ^ (d ^ j) - 2) (by omega) (by
      rw [show 1 + (2 ^ (d ^ j) - 2) = 2 ^ (d ^ j) - 1 by omega]
      exact p1)
    rw [show 1 + (2 ^ (d ^ j) - 1) = 2 ^ (d ^ j) by omega] at e
    omega
theorem q_templates (h : St d R K V C pl tu ar cr an cv g a) : ∃ g' a', f_L_templates g a (nI d) = some (1, g', a') ∧ Sm PX QX g a g' a' := by
  obtain ⟨hB, hd, -⟩ := St_b h
  obtain ⟨x1, g1, a1, e1, s1, l1, m1⟩ := q_ends h
  obtain ⟨g2, a2, e2, s2⟩ := q_core (St_fr h s1)
  have t2 := Sm_tr s1 s2
  obtain ⟨x3, g3, a3, e3, s3, l3⟩ := q_first0 (St_fr h t2)
  have t3 := Sm_tr t2 s3
  obtain ⟨x4, g4, a4, e4, s4, l4, m4⟩ := q_monoid (St_fr h t3)
  have t4 := Sm_tr t3 s4
  obtain ⟨x5, g5, a5, e5, s5, l5, m5⟩ := q_kept (St_fr h t4) (j := 1) (Or.inl rfl)
  have t5 := Sm_tr t4 s5
  obtain ⟨x6, g6, a6, e6, s6, l6, m6⟩ := q_kept (St_fr h t5) (j := 2) (Or.inr rfl)
  have t6 := Sm_tr t5 s6
  obtain ⟨x7, g7, a7, e7, s7, l7⟩ := q_first3 (St_fr h t6)
  have t7 := Sm_tr t6 s7
  obtain ⟨x8, g8, a8, e8, s8, l8⟩ := q_first3 (St_fr h t7)
  obtain ⟨c1, c2⟩ := core_1 (d := d) (R := R) (pl := pl) (tu := tu) hd
  have c3 := mn_le (d := d) (R := R) (pl := pl) (tu := tu) (d ^ d)
  have fin : ∃ g' a', f_L_templates_52 g3 a3 (nI d) 1 1 = some (1, g', a') ∧ Sm PX QX g a g' a' := by
    have hd1 : f_L_templates_52 g3 a3 (nI d) 1 1 = (if (lg_cmp x7 (-1)) = 0 then some (1, g7, a7) else (if nI d = 3 then some (1, g7, a7) else Option.bind (rgt (f_X11_first g7 a7 3)) (fun u26 => (if (lg_cmp u26.1 150) = 0 then some (1, u26.2.1, u26.2.2) else some (0, u26.2.1, u26.2.2))))) := by
      unfold f_L_templates_52
      rw [if_pos rfl, e4, Option.bind_some]
      dsimp only
      rw [if_neg (show ¬ nI x4 < 1 from nI_nlt (a := x4) (b := 1) l4 (by omega)), show f_X11_kept g4 a4 1 = _ from e5, rgt_r, Option.bind_some]
      dsimp only
      rw [if_neg (show ¬ nI x5 < 2 from nI_nlt (a := x5) (b := 2) l5 (by omega)), show f_X11_kept g5 a5 2 = _ from e6, rgt_r, Option.bind_some]
      dsimp only
      rw [if_neg (show ¬ nI x6 < 2 from nI_nlt (a := x6) (b := 2) l6 (by omega)), e7, rgt_r, Option.bind_some]
    rw [hd1]
    by_cases q : lg_cmp x7 (-1) = 0
    · exact ⟨g7, a7, by rw [if_pos q], t7⟩
    · rw [if_neg q]
      by_cases q3 : d = 3
      · exact ⟨g7, a7, by rw [q3, if_pos (show nI 3 = 3 from rfl)], t7⟩
      · have hd2 : d = 2 := hd.resolve_right q3
        have hk : Kp d R pl tu 3 (TA d) := by
          rcases l7 with ⟨e, _⟩ | ⟨e, _⟩
          · exact absurd (lg_0.mpr e) q
          · exact e
        have ex : x8 = 150 := by
          rcases l8 with ⟨_, e⟩ | ⟨_, e⟩
          · exact absurd hk e
          · rw [e, hd2]
            decide +kernel
        refine ⟨g8, a8, ?_, Sm_tr t7 s8⟩
        rw [hd2, if_neg (show ¬ nI 2 = 3 by decide), e8, rgt_r, Option.bind_some]
        dsimp only
        rw [if_pos (lg_0.mpr ex)]
  obtain ⟨g', a', f1, f2⟩ := fin
  refine ⟨g', a', ?_, f2⟩
  have mid : ∀ b : Bool, (b = true ↔ mn d R pl tu (d ^ d) = 1) → f_L_templates_35 g2 a2 (nI d) (if b then 1 else 0) = some (1, g', a') := fun b hb => by
    unfold f_L_templates_35
    rw [e3, rgt_r, Option.bind_some]
    dsimp only
    by_cases q : x3 = -1
    · have : b = false := by
        cases hb' : b
        · rfl
        · exact absurd (c2.mp (hb.mp hb')) (l3.mp q)
      rw [if_pos (lg_0.mpr q), this, if_neg (by decide)]
      have e : f_L_templates_52 g3 a3 (nI d) 0 0 = f_L_templates_52 g3 a3 (nI d) 1 1 := by
        unfold f_L_templates_52
        rw [if_pos rfl, if_pos rfl]
      rw [e, f1]
    · have : b = true := by
        refine hb.mpr (c2.mpr ?_)
        exact Classical.byContradiction fun hn => q (l3.mpr hn)
      rw [if_neg (fun e => q (lg_0.mp e)), this, if_pos rfl, f1]
  unfold f_L_templates
  rw [e1, Option.bind_some]
  dsimp only
  rw [e2, Option.bind_some]
  dsimp only
  rw [if_neg (show ¬ nI x1 < 1 from nI_nlt (a := x1) (b := 1) l1 (by omega)), if_neg (show ¬ nI (mn d R pl tu (d ^ d)) < 1 from nI_nlt (b := 1) c1 (by omega)), if_neg (nI_nlt c3 (by omega))]
  by_cases q : mn d R pl tu (d ^ d) = 1
  · rw [q, if_pos (show nI 1 = 1 from rfl)]
    exact mid true ⟨fun _ => q, fun _ => rfl⟩
  · rw [if_neg (show ¬ nI (mn d R pl tu (d ^ d)) = 1 from fun e => q (nI_inj (b := 1) (by omega) (by decide) e))]
    exact mid false ⟨fun e => (by cases e), fun e => absurd e q⟩
end TE
