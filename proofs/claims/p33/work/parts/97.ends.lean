/-! ends, core. -/
def RX (d R : Nat) (pl tu : Nat → Nat) (g : xG) (a : xA) : Prop := R ≤ 8 ∧ g 1 = nI R ∧ ∀ r, r < R → a 5 r = nI (pl r) ∧ a 6 r = nI (tu r) ∧ 1 ≤ pl r ∧ pl r + d ≤ 5 ∧ tu r < 2 ^ (d ^ pl r)
def RM (d R : Nat) (pl tu : Nat → Nat) (g : xG) (a : xA) : Prop := R ≤ 8 ∧ g 1 = nI R ∧ ∀ r, r < R → a 1 r = nI (pl r) ∧ a 2 r = nI (tu r) ∧ 1 ≤ pl r ∧ pl r + d ≤ 5 ∧ tu r < 2 ^ (d ^ pl r)
theorem RX_of {d R : Nat} {pl tu : Nat → Nat} {g : xG} {a : xA} {gm : xG} {am : xA} (h : CR d R pl tu g a gm am) : RX d R pl tu g a := ⟨h.1, h.2.1, fun r hr => by
  obtain ⟨r1, r2, r3, r4, r5, r6, r7⟩ := h.2.2.2.2.2 r hr
  exact ⟨r1, r3, r5, r6, r7⟩⟩
theorem RM_of {d R : Nat} {pl tu : Nat → Nat} {g : xG} {a : xA} {gm : xG} {am : xA} {v : Int32} (h : CR d R pl tu g a gm am) : RM d R pl tu (upd gm 8 v) am := ⟨h.1, (upd_n _ _ (by decide)).trans h.2.2.1, fun r hr => by
  obtain ⟨r1, r2, r3, r4, r5, r6, r7⟩ := h.2.2.2.2.2 r hr
  exact ⟨r2, r4, r5, r6, r7⟩⟩
theorem RX_sm {d R : Nat} {pl tu : Nat → Nat} {P Q : List Nat} {g g' : xG} {a a' : xA} (h : RX d R pl tu g a) (s : Sm P Q g a g' a') (h1 : ¬ 1 ∈ P := by decide) (h5 : ¬ 5 ∈ Q := by decide) (h6 : ¬ 6 ∈ Q := by decide) : RX d R pl tu g' a' := by
  unfold RX at *
  rw [s.1 1 h1, s.2 5 h5, s.2 6 h6]
  exact h
theorem RM_sm {d R : Nat} {pl tu : Nat → Nat} {g g' : xG} {a a' : xA} (h : RM d R pl tu g a) (s : SmM g a g' a') : RM d R pl tu g' a' := by
  unfold RM at *
  rw [s.1 1 (by decide), s.2.1 1 (by decide) (by decide), s.2.1 2 (by decide) (by decide)]
  exact h
/-- it keeps all relations -/
def Kp (d R : Nat) (pl tu : Nat → Nat) (w : Nat) (T : Nat → Nat) : Prop := ∀ r, r < R → bdiff (im d w T (pl r) (tu r)) (tu r) = 0
theorem Img_cong {d w n s c : Nat} {T T' : Nat → Nat} (hd : 0 < d) (h : ∀ p, p < d ^ w → T p = T' p) (q : Img d w T n s c) : Img d w T' n s c := by
  obtain ⟨x, x1, x2⟩ := q
  exact ⟨x, x1, x2 ▸ (apl_cong hd h (fun _ _ => rfl)).symm⟩
theorem im_cong {d w n s : Nat} {T T' : Nat → Nat} (hd : 0 < d) (hT : ∀ p, p < d ^ w → T p < d) (h : ∀ p, p < d ^ w → T p = T' p) : im d w T n s = im d w T' n s := set_ext fun i => by
  rw [im_bit hd hT, im_bit hd (fun p hp => by rw [← h p hp]; exact hT p hp)]
  exact ⟨Img_cong hd h, Img_cong hd (fun p hp => (h p hp).symm)⟩
theorem Kp_cong {d R w : Nat} {pl tu T T' : Nat → Nat} (hd : 0 < d) (hT : ∀ p, p < d ^ w → T p < d) (h : ∀ p, p < d ^ w → T p = T' p) : Kp d R pl tu w T ↔ Kp d R pl tu w T' := by
  unfold Kp
  constructor
  · intro q r hr
    rw [← im_cong hd hT h]
    exact q r hr
  · intro q r hr
    rw [im_cong hd hT h]
    exact q r hr
theorem bd31 {d n x s : Nat} (hd : d = 2 ∨ d = 3) (hn : n + d ≤ 5) (h : x < 2 ^ (d ^ n)) : bdiff x s < 2 ^ 31 := Nat.lt_of_lt_of_le (bdiff_le _ _ h) (Nat.pow_le_pow_right (by decide) (by have := pw9 hd hn; omega))
theorem tk2 {d R w : Nat} {pl tu T : Nat → Nat} : ∀ (r k n : Nat) (g : xG) (a : xA), k + r = R → r < n → Bas d g a → RX d R pl tu g a → Opr d 6 w T g a →
    ∃ (b : Bool) (g' : xG) (a' : xA), f_X3_triedKeepsAll_2 n g a (nI k) = some (if b then 1 else 0, g', a') ∧ Sm [2, 3] [8, 9] g a g' a' ∧ (b = true ↔ ∀ r, k ≤ r → r < R → bdiff (im d w T (pl r) (tu r)) (tu r) = 0)
  | 0, k, n, g, a, hk, hn, hB, hR, hO => by
    obtain ⟨n, rfl⟩ := pos_of hn
    have hR8 := hR.1
    refine ⟨true, g, a, ?_, Sm_rfl, fun _ r h1 h2 => by omega, fun _ => rfl⟩
    rw [e_X3_triedKeepsAll_2, hR.2.1, if_pos (nI_le (by omega) (by omega))]
    rfl
  | r + 1, k, n, g, a, hk, hn, hB, hR, hO => by
    obtain ⟨n, rfl⟩ := pos_of hn
    have hR8 := hR.1
    have hd := hB.1
    obtain ⟨r1, r3, r5, r6, r7⟩ := hR.2.2 k (by omega)
    obtain ⟨g1, a1, e1, e2⟩ := strays_i (n0 := pl k) hB hO (by omega) r7
    have hbl := bd31 (s := tu k) hd r6 (im_lt d w T (pl k) (tu k))
    rw [e_X3_triedKeepsAll_2, hR.2.1, if_neg (nI_ge (by omega) (by omega)), plOf (by omega) r1, tuOf (by omega) r3, e1, Option.bind_some]
    dsimp only
    rw [show nI k + 1 = nI (k + 1) from nI_1 k]
    by_cases hz : bdiff (im d w T (pl k) (tu k)) (tu k) = 0
    · obtain ⟨b, g2, a2, q1, q2, q3⟩ := tk2 r (k + 1) n g1 a1 (by omega) (by omega) (Bas_sm hB e2) (RX_sm hR e2) (Opr_sm hO e2)
      refine ⟨b, g2, a2, ?_, Sm_tr e2 q2, q3.trans ⟨fun q r' k1 k2 => ?_, fun q r' k1 k2 => q r' (by omega) k2⟩⟩
      · rw [if_pos (by rw [hz]; rfl)]
        exact q1
      · by_cases he : r' = k
        · rw [he]; exact hz
        · exact q r' (by omega) k2
    · refine ⟨false, g1, a1, ?_, e2, fun q => (by cases q), fun q => absurd (q k (Nat.le_refl _) (by omega)) hz⟩
      rw [if_neg (nI_ne0 (by omega) hbl)]
      rfl
theorem tka {d R w : Nat} {pl tu T : Nat → Nat} {g : xG} {a : xA} (hB : Bas d g a) (hR : RX d R pl tu g a) (hO : Opr d 6 w T g a) :
    ∃ (b : Bool) (g' : xG) (a' : xA), f_X3_triedKeepsAll g a = some (if b then 1 else 0, g', a') ∧ Sm [2, 3] [8, 9] g a g' a' ∧ (b = true ↔ Kp d R pl tu w T) := by
  obtain ⟨b, g', a', e1, e2, e3⟩ := tk2 R 0 fu g a (by omega) (fu_gt (by have := hR.1; omega)) hB hR hO
  exact ⟨b, g', a', e1, e2, e3.trans ⟨fun q r hr => q r (Nat.zero_le _) hr, fun q r _ hr => q r hr⟩⟩
theorem km5 {d R w : Nat} {pl tu T : Nat → Nat} {g : xG} (hd : d = 2 ∨ d = 3) (h0 : g 0 = nI d) : ∀ (r k n : Nat) (a : xA) (b0 : Bool), k + r = R → r < n → RM d R pl tu g a → OpM d 6 w T a →
    ∃ (b : Bool) (a' : xA), f_X12_keepsAll_5 g n a (nI 6) (nI w) (if b0 then 1 else 0) (nI k) = some (if b then 1 else 0, a') ∧ Sm [] [11] g a g a' ∧ (b = true ↔ b0 = true ∧ ∀ r, k ≤ r → r < R → bdiff (im d w T (pl r) (tu r)) (tu r) = 0)
  | 0, k, n, a, b0, hk, hn, hR, hO => by
    obtain ⟨n, rfl⟩ := pos_of hn
    have hR8 := hR.1
    refine ⟨b0, a, ?_, Sm_rfl, fun q => ⟨q, fun r h1 h2 => by omega⟩, fun q => q.1⟩
    rw [e_X12_keepsAll_5, hR.2.1, if_pos (nI_le (by omega) (by omega)), ck_t]
    cases b0 <;> decide
  | r + 1, k, n, a, b0, hk, hn, hR, hO => by
    obtain ⟨n, rfl⟩ := pos_of hn
    have hR8 := hR.1
    obtain ⟨r1, r3, r5, r6, r7⟩ := hR.2.2 k (by omega)
    rw [e_X12_keepsAll_5, hR.2.1, if_neg (nI_ge (by omega) (by omega))]
    cases b0 with
    | false =>
      refine ⟨false, a, ?_, Sm_rfl, fun q => (by cases q), fun q => q.1⟩
      rw [if_pos (by decide), ck_t (by decide)]
    | true =>
      obtain ⟨a1, e1, e2⟩ := keep_i hd h0 (n0 := pl k) (by omega) r7 hO (r := k) (by omega) r1 r3
      rw [if_neg (by decide), e1, Option.bind_some]
      dsimp only
      rw [show nI k + 1 = nI (k + 1) from nI_1 k]
      by_cases hz : bdiff (im d w T (pl k) (tu k)) (tu k) = 0
      · obtain ⟨b, a2, q1, q2, q3⟩ := km5 hd h0 r (k + 1) n a1 true (by omega) (by omega) (RM_sm hR (SmM_of e2)) (OpM_sm hO e2)
        refine ⟨b, a2, ?_, Sm_tr e2 q2, q3.trans ⟨fun q => ⟨rfl, fun r' k1 k2 => ?_⟩, fun q => ⟨rfl, fun r' k1 k2 => q.2 r' (by omega) k2⟩⟩⟩
        · rw [if_pos hz]
          exact q1
        · by_cases he : r' = k
          · rw [he]; exact hz
          · exact q.2 r' (by omega) k2
      · obtain ⟨b, a2, q1, q2, q3⟩ := km5 hd h0 r (k + 1) n a1 false (by omega) (by omega) (RM_sm hR (SmM_of e2)) (OpM_sm hO e2)
        refine ⟨b, a2, ?_, Sm_tr e2 q2, q3.trans ⟨fun q => (by cases q.1), fun q => absurd (q.2 k (Nat.le_refl _) (by omega)) hz⟩⟩
        rw [if_neg hz]
        exact q1
theorem kaM {d R w : Nat} {pl tu T : Nat → Nat} {g : xG} {a : xA} (hd : d = 2 ∨ d = 3) (h0 : g 0 = nI d) (hR : RM d R pl tu g a) (hO : OpM d 6 w T a) :
    ∃ (b : Bool) (a' : xA), f_X12_keepsAll g a (nI 6) (nI w) = some (if b then 1 else 0, a') ∧ Sm [] [11] g a g a' ∧ (b = true ↔ Kp d R pl tu w T) := by
  obtain ⟨b, a', e1, e2, e3⟩ := km5 hd h0 R 0 fu a true (by omega) (fu_gt (by have := hR.1; omega)) hR hO
  exact ⟨b, a', e1, e2, e3.trans ⟨fun q r hr => q.2 r (Nat.zero_le _) hr, fun q => ⟨rfl, fun r _ hr => q r hr⟩⟩⟩
theorem SmM_4 {g : xG} {a : xA} {f : Nat → Int32} (h : ∀ i, i < 162 → f i = a 4 i) : SmM g a g (upA a 4 f) := ⟨fun _ _ => rfl, fun i _ h4 => upA_n _ _ h4, fun i hi => by rw [upA_s]; exact h i hi⟩
theorem tc5 {d w code : Nat} {g : xG} (hd : d = 2 ∨ d = 3) (h0 : g 0 = nI d) (hw : w ≤ 3) (hc : code < 2 ^ 31) : ∀ (r p n : Nat) (a : xA), p + r = d ^ w → r < n →
    ∃ f, f_X12_triesCode_5 g n a (nI w) (nI (code / d ^ p)) (nI p) = some (upA a 4 f) ∧ (∀ i, i < 162 + p → f i = a 4 i) ∧ ∀ q, p ≤ q → q < d ^ w → f (162 + q) = nI (dg d code q)
  | 0, p, n, a, hp, hn => by
    obtain ⟨n, rfl⟩ := pos_of hn
    have h27 := pw3 hd hw
    refine ⟨a 4, ?_, fun _ _ => rfl, fun q h1 h2 => by omega⟩
    rw [e_X12_triesCode_5, pwM (by omega) h0, Option.bind_some, if_pos (nI_le (by omega) (by omega)), upA_id]
  | r + 1, p, n, a, hp, hn => by
    obtain ⟨n, rfl⟩ := pos_of hn
    have h27 := pw3 hd hw
    have hcp : code / d ^ p < 2 ^ 31 := Nat.lt_of_le_of_lt (Nat.div_le_self ..) hc
    have hd0 : 0 < d := by omega
    obtain ⟨f, e1, e2, e3⟩ := tc5 hd h0 hw hc r (p + 1) n (upA a 4 (upd (a 4) (162 + p) (nI (dg d code p)))) (by omega) (by omega)
    refine ⟨f, ?_, fun i hi => ?_, fun q h1 h2 => ?_⟩
    · rw [e_X12_triesCode_5, pwM (by omega) h0, Option.bind_some, if_neg (nI_ge (by omega) (by omega)), h0, ck_t (nzB_t hd0 (by omega)), show ((162 : Int32) + nI p) = nI (162 + p) from nI_add 162 p, ck_t (inB_t (by omega) (by decide)), ck_t (nzB_t hd0 (by omega)), pk_rem hcp hd0 (by omega), pk_div hcp hd0 (by omega), dg_step, nI_clamp (by omega), show nI p + 1 = nI (p + 1) from nI_1 p]
      refine Eq.trans e1 ?_
      rw [upA_2]
    · rw [e2 i (by omega), upA_s, upd_n _ _ (by omega)]
    · by_cases hq : q = p
      · rw [hq, e2 _ (by omega), upA_s, upd_s]
      · exact e3 q (by omega) h2
theorem triesM {d w code : Nat} {g : xG} {a : xA} (hd : d = 2 ∨ d = 3) (h0 : g 0 = nI d) (h1 : 1 ≤ w) (hw : w ≤ 3) (hc : code < 2 ^ 31) :
    ∃ a', f_X12_triesCode g a (nI code) (nI w) = some a' ∧ SmM g a g a' ∧ OpM d 6 w (dg d code) a' := by
  have h27 := pw3 hd hw
  obtain ⟨f, e1, e2, e3⟩ := tc5 hd h0 hw hc (d ^ w) 0 fu a (by omega) (fu_gt (by omega))
  rw [Nat.pow_zero, Nat.div_one] at e1
  exact ⟨upA a 4 f, e1, SmM_4 (fun i hi => e2 i (by omega)), Nat.le_refl _, h1, hw, fun p hp => ⟨by rw [upA_s]; exact e3 p (Nat.zero_le _) hp, dg_lt (by omega) _ _⟩⟩
theorem bu7 {d w code : Nat} {g : xG} (hw : w ≤ 1) (hc : code < 27) (h : g 21 = nI w) : ∀ (r p n : Nat) (a : xA), p + r = d ^ w → r < n → Bas d g a →
    ∃ f, f_X5_becomeUnary_7 6 n g a (nI code) (nI p) = some (g, upA a 53 f) ∧ (∀ q, q < p → f q = a 53 q) ∧ ∀ q, p ≤ q → q < d ^ w → f q = nI (dg d code q)
  | 0, p, n, a, hp, hn, hB => by
    obtain ⟨n, rfl⟩ := pos_of hn
    have h27 := pw3 hB.1 (w := w) (by omega)
    refine ⟨a 53, ?_, fun _ _ => rfl, fun q h1 h2 => by omega⟩
    rw [e_X5_becomeUnary_7, pts (k := 6) hB (by omega) h, if_pos (nI_le (by omega) (by omega)), upA_id]
  | r + 1, p, n, a, hp, hn, hB => by
    obtain ⟨n, rfl⟩ := pos_of hn
    have hd := hB.1
    have h27 := pw3 hB.1 (w := w) (by omega)
    have h3 : d ^ w ≤ 3 := by
      rcases (by omega : w = 0 ∨ w = 1) with rfl | rfl
      · simp
      · rw [Nat.pow_one]; omega
    obtain ⟨f, e1, e2, e3⟩ := bu7 hw hc h r (p + 1) n (upA a 53 (upd (a 53) p (nI (dg d code p)))) (by omega) (by omega) (Bas_fr hB rfl (upA_n _ _ (by decide)) (upA_n _ _ (by decide)))
    refine ⟨f, ?_, fun q hq => ?_, fun q h1 h2 => ?_⟩
    · rw [e_X5_becomeUnary_7, pts (k := 6) hB (by omega) h, if_neg (nI_ge (by omega) (by omega))]
      unfold t_X5_setAnswer
      rw [digit_B hB hc (by omega), put_in (by omega) (by decide), show nI p + 1 = nI (p + 1) from nI_1 p]
      refine Eq.trans e1 ?_
      rw [upA_2]
    · rw [e2 q (by omega), upA_s, upd_n _ _ (by omega)]
    · by_cases hq : q = p
      · rw [hq, e2 p (by omega), upA_s, upd_s]
      · exact e3 q (by omega) h2
theorem unaryX {d code : Nat} {g : xG} {a : xA} (hB : Bas d g a) (hc : code < 27) : ∃ g' a', f_X5_becomeUnary 6 g a (nI code) = some (g', a') ∧ Sm [21] [53] g a g' a' ∧ Opr d 6 1 (dg d code) g' a' := by
  have hd := hB.1
  obtain ⟨f1, e1, _⟩ := beginO (k := 6) (w := 1) (by decide) (by decide) hB
  obtain ⟨f, e2, _, e3⟩ := bu7 (d := d) (w := 1) (code := code) (g := upd g 21 (nI 1)) (Nat.le_refl _) hc (upd_s ..) (d ^ 1) 0 fu (upA a 53 f1) (by omega) (fu_gt (by have := pw3 hd (w := 1) (by decide); omega)) (Bas_fr hB (upd_n _ _ (by decide)) (upA_n _ _ (by decide)) (upA_n _ _ (by decide)))
  rw [upA_2] at e2
  refine ⟨upd g 21 (nI 1), upA a 53 f, ?_, Sm_A (Sm_G Sm_rfl (by decide)) (by decide), by decide, upd_s .., by decide, by decide, fun p hp => ⟨?_, dg_lt (by omega) _ _⟩⟩
  · unfold f_X5_becomeUnary
    rw [show (1 : Int32) = nI 1 from rfl, e1, Option.bind_some]
    exact e2
  · rw [show 47 + 6 = 53 from rfl, upA_s]
    exact e3 p (Nat.zero_le _) hp
theorem ce4 {d R : Nat} {pl tu : Nat → Nat} : ∀ (r c n : Nat) (g : xG) (a : xA), c + r = d ^ d → r < n → Bas d g a → RX d R pl tu g a →
    ∃ g' a', f_X3_countEnds_4 n g a (nI (cb (fun c => Kp d R pl tu 1 (dg d c)) c)) (nI c) = some (nI (cb (fun c => Kp d R pl tu 1 (dg d c)) (d ^ d)), g', a') ∧ Sm [2, 3, 21] [8, 9, 53] g a g' a'
  | 0, c, n, g, a, hc, hn, hB, hR => by
    obtain ⟨n, rfl⟩ := pos_of hn
    have hd := hB.1
    have e : c = d ^ d := by omega
    have h27 := pw3 hd (w := d) (by omega)
    refine ⟨g, a, ?_, Sm_rfl⟩
    rw [e_X3_countEnds_4, hB.2.1, power_B hB (by omega), if_pos (nI_le (by omega) (by omega)), e]
  | r + 1, c, n, g, a, hc, hn, hB, hR => by
    obtain ⟨n, rfl⟩ := pos_of hn
    have hd := hB.1
    have h27 := pw3 hd (w := d) (by omega)
    obtain ⟨g1, a1, e1, e2, e3⟩ := unaryX hB (code := c) (by omega)
    have s1 : Sm [2, 3, 21] [8, 9, 53] g a g1 a1 := Sm_mo e2 (by decide) (by decide)
    obtain ⟨b, g2, a2, e4, e5, e6⟩ := tka (Bas_sm hB s1) (RX_sm hR s1) e3
    have s2 : Sm [2, 3, 21] [8, 9, 53] g a g2 a2 := Sm_tr s1 (Sm_mo e5 (by decide) (by decide))
    obtain ⟨g3, a3, e7, e8⟩ := ce4 r (c + 1) n g2 a2 (by omega) (by omega) (Bas_sm hB s2) (RX_sm hR s2)
    refine ⟨g3, a3, ?_, Sm_tr s2 e8⟩
    rw [e_X3_countEnds_4, hB.2.1, power_B hB (by omega), if_neg (nI_ge (by omega) (by omega)), e1, Option.bind_some, e4, Option.bind_some]
    dsimp only
    rw [show nI c + 1 = nI (c + 1) from nI_1 c]
    cases hb : b with
    | false =>
      rw [cb_0 (P := fun c => Kp d R pl tu 1 (dg d c)) (fun q => by rw [e6.mpr q] at hb; cases hb)] at e7
      rw [if_pos (by decide)]
      exact e7
    | true =>
      rw [cb_1 (P := fun c => Kp d R pl tu 1 (dg d c)) (e6.mp hb)] at e7
      rw [if_neg (by decide), show nI (cb (fun c => Kp d R pl tu 1 (dg d c)) c) + 1 = nI (cb (fun c => Kp d R pl tu 1 (dg d c)) c + 1) from nI_1 _]
      exact e7
/-- the values that are answered -/
def vs (T : Nat → Nat) : Nat → Nat
  | 0 => 0
  | n + 1 => vs T n ||| 2 ^ T n
theorem vs_lt {T : Nat → Nat} {N : Nat} : ∀ n, (∀ p, p < n → T p < N) → vs T n < 2 ^ N
  | 0, _ => Nat.two_pow_pos _
  | n + 1, h => or_lt (vs_lt n (fun p hp => h p (by omega))) (h n (by omega))
/-- the fewest so far -/
noncomputable def mn (d R : Nat) (pl tu : Nat → Nat) : Nat → Nat
  | 0 => d
  | c + 1 => @ite _ (Kp d R pl tu 1 (dg d c)) (Classical.propDecidable _) (if pc (vs (dg d c) d) 31 < mn d R pl tu c then pc (vs (dg d c) d) 31 else mn d R pl tu c) (mn d R pl tu c)
theorem mn_1 {d R c : Nat} {pl tu : Nat → Nat} (h : Kp d R pl tu 1 (dg d c)) : mn d R pl tu (c + 1) = if pc (vs (dg d c) d) 31 < mn d R pl tu c then pc (vs (dg d c) d) 31 else mn d R pl tu c := by
  show @ite _ (Kp d R pl tu 1 (dg d c)) (Classical.propDecidable _) _ _ = _
  rw [if_pos h]
theorem mn_0 {d R c : Nat} {pl tu : Nat → Nat} (h : ¬ Kp d R pl tu 1 (dg d c)) : mn d R pl tu (c + 1) = mn d R pl tu c := by
  show @ite _ (Kp d R pl tu 1 (dg d c)) (Classical.propDecidable _) _ _ = _
  rw [if_neg h]
theorem mn_le {d R : Nat} {pl tu : Nat → Nat} : ∀ c, mn d R pl tu c ≤ d
  | 0 => Nat.le_refl _
  | c + 1 => by
    have h := mn_le (R := R) (pl := pl) (tu := tu) (d := d) c
    by_cases hk : Kp d R pl tu 1 (dg d c)
    · rw [mn_1 hk]
      split <;> omega
    · rw [mn_0 hk]
      exact h
theorem av4 {d : Nat} {T : Nat → Nat} {g : xG} {a : xA} (hB : Bas d g a) (hO : Opr d 6 1 T g a) : ∀ (r p n : Nat), p + r = d → r < n → f_X3_answeredValues_4 g a n (nI (vs T p)) (nI p) = some (nI (pc (vs T d) 31))
  | 0, p, n, hp, hn => by
    obtain ⟨n, rfl⟩ := pos_of hn
    have hd := hB.1
    have e : p = d := by omega
    subst e
    have h1 := vs_lt (T := T) (N := p) p (fun q hq => (hO.2.2.2.2 q (by rw [Nat.pow_one]; exact hq)).2)
    have h8 : 2 ^ p ≤ 2 ^ 3 := Nat.pow_le_pow_right (by decide) (by omega)
    rw [e_X3_answeredValues_4, hB.2.1, if_pos (nI_le (Nat.le_refl _) (by omega)), bc9 (by omega)]
  | r + 1, p, n, hp, hn => by
    obtain ⟨n, rfl⟩ := pos_of hn
    have hd := hB.1
    have hT := (hO.2.2.2.2 p (by rw [Nat.pow_one]; omega)).2
    rw [e_X3_answeredValues_4, hB.2.1, if_neg (nI_ge (by omega) (by omega)), ansA hd hO (by rw [Nat.pow_one]; omega), shl_nI (by omega), nI_or, show nI p + 1 = nI (p + 1) from nI_1 p]
    exact av4 hB hO r (p + 1) n (by omega) (by omega)
theorem fe10 {d R : Nat} {pl tu : Nat → Nat} : ∀ (r c n : Nat) (g : xG) (a : xA), c + r = d ^ d → r < n → Bas d g a → RX d R pl tu g a →
    ∃ g' a', f_X3_fewestEndValues_10 n g a (nI (mn d R pl tu c)) (nI c) = some (nI (mn d R pl tu (d ^ d)), g', a') ∧ Sm [2, 3, 21] [8, 9, 53] g a g' a'
  | 0, c, n, g, a, hc, hn, hB, hR => by
    obtain ⟨n, rfl⟩ := pos_of hn
    have hd := hB.1
    have e : c = d ^ d := by omega
    have h27 := pw3 hd (w := d) (by omega)
    refine ⟨g, a, ?_, Sm_rfl⟩
    rw [e_X3_fewestEndValues_10, hB.2.1, power_B hB (by omega), if_pos (nI_le (by omega) (by omega)), e]
  | r + 1, c, n, g, a, hc, hn, hB, hR => by
    obtain ⟨n, rfl⟩ := pos_of hn
    have hd := hB.1
    have h27 := pw3 hd (w := d) (by omega)
    obtain ⟨g1, a1, e1, e2, e3⟩ := unaryX hB (code := c) (by omega)
    have s1 : Sm [2, 3, 21] [8, 9, 53] g a g1 a1 := Sm_mo e2 (by decide) (by decide)
    obtain ⟨b, g2, a2, e4, e5, e6⟩ := tka (Bas_sm hB s1) (RX_sm hR s1) e3
    have s2 : Sm [2, 3, 21] [8, 9, 53] g a g2 a2 := Sm_tr s1 (Sm_mo e5 (by decide) (by decide))
    obtain ⟨g3, a3, e7, e8⟩ := fe10 r (c + 1) n g2 a2 (by omega) (by omega) (Bas_sm hB s2) (RX_sm hR s2)
    refine ⟨g3, a3, ?_, Sm_tr s2 e8⟩
    rw [e_X3_fewestEndValues_10, hB.2.1, power_B hB (by omega), if_neg (nI_ge (by omega) (by omega)), e1, Option.bind_some, e4, Option.bind_some]
    dsimp only
    rw [show nI c + 1 = nI (c + 1) from nI_1 c]
    cases hb : b with
    | false =>
      rw [mn_0 (fun q => by rw [e6.mpr q] at hb; cases hb)] at e7
      rw [if_pos (by decide)]
      exact e7
    | true =>
      rw [mn_1 (e6.mp hb)] at e7
      have e9 : f_X3_answeredValues g2 a2 = some (nI (pc (vs (dg d c) d) 31)) := av4 (Bas_sm hB s2) (Opr_sm e3 e5) d 0 fu (by omega) (fu_gt (by omega))
      have hp := pc_le (vs (dg d c) d) 31
      have hm := mn_le (d := d) (R := R) (pl := pl) (tu := tu) c
      rw [if_neg (by decide), e9, Option.bind_some]
      by_cases hlt : pc (vs (dg d c) d) 31 < mn d R pl tu c
      · rw [if_pos hlt] at e7
        rw [if_pos (nI_lt hlt (by omega))]
        exact e7
      · rw [if_neg hlt] at e7
        rw [if_neg (nI_nlt (by omega) (by omega))]
        exact e7
theorem eo49 {d x1 n0 lst c : Nat} {T : Nat → Nat} {g : xG} {a : xA} (hd : d = 2 ∨ d = 3) (h0 : g 0 = nI d) (hO : OpM d 6 1 T a) (hl : lst ≤ 3) {K : xA → Int32 → Int32 → Int32 → Int32 → Option (Int32 × xA)} :
    ∀ (r p n : Nat), p + r = d → r < n → f_X12_endsOf_49 g K n a (nI x1) (nI n0) (nI lst) (nI c) (nI (vs T p)) (nI p) = K a (nI x1) (nI n0) (nI (if pc (vs T d) 31 < lst then pc (vs T d) 31 else lst)) (nI (c + 1))
  | 0, p, n, hp, hn => by
    obtain ⟨n, rfl⟩ := pos_of hn
    have e : p = d := by omega
    subst e
    have h1 := vs_lt (T := T) (N := p) p (fun q hq => (hO.2.2.2 q (by rw [Nat.pow_one]; exact hq)).2)
    have h8 : 2 ^ p ≤ 2 ^ 3 := Nat.pow_le_pow_right (by decide) (by omega)
    have hpc := pc_le (vs T p) 31
    rw [e_X12_endsOf_49, h0, if_pos (nI_le (Nat.le_refl _) (by omega)), cntM (by omega), Option.bind_some, Option.bind_some, show nI c + 1 = nI (c + 1) from nI_1 c]
    by_cases hlt : pc (vs T p) 31 < lst
    · rw [if_pos hlt, if_neg (nI_ge hlt (by omega))]
    · rw [if_neg hlt, if_pos (nI_le (by omega) (by omega))]
  | r + 1, p, n, hp, hn => by
    obtain ⟨n, rfl⟩ := pos_of hn
    obtain ⟨t1, t2⟩ := hO.2.2.2 p (by rw [Nat.pow_one]; omega)
    rw [e_X12_endsOf_49, h0, if_neg (nI_ge (by omega) (by omega)), show ((162 : Int32) + nI p) = nI (162 + p) from nI_add 162 p, ck_t (inB_t (by omega) (by decide)), nI_clamp (by omega), show a 4 (162 + p) = nI (T p) from t1, shl_nI (by omega), nI_or, show nI p + 1 = nI (p + 1) from nI_1 p]
    exact eo49 hd h0 hO hl (K := K) r (p + 1) n (by omega) (by omega)
theorem eo10 {d R x1 : Nat} {pl tu : Nat → Nat} {g : xG} (hd : d = 2 ∨ d = 3) (h0 : g 0 = nI d) (hx : x1 < 2) : ∀ (r c n : Nat) (a : xA), c + r = d ^ d → r < n → RM d R pl tu g a →
    ∃ a', f_X12_endsOf_10 g n a (nI x1) (nI (cb (fun c => Kp d R pl tu 1 (dg d c)) c)) (nI (mn d R pl tu c)) (nI c) = some (if x1 = 0 then nI (cb (fun c => Kp d R pl tu 1 (dg d c)) (d ^ d)) else nI (mn d R pl tu (d ^ d)), a') ∧ SmM g a g a'
  | 0, c, n, a, hc, hn, hR => by
    obtain ⟨n, rfl⟩ := pos_of hn
    have e : c = d ^ d := by omega
    have h27 := pw3 hd (w := d) (by omega)
    refine ⟨a, ?_, SmM_rfl⟩
    rw [e_X12_endsOf_10, h0, pwM (by omega) h0, Option.bind_some, if_pos (nI_le (by omega) (by omega)), e]
    rcases (by omega : x1 = 0 ∨ x1 = 1) with rfl | rfl
    · rw [if_pos (show nI 0 = 0 from rfl), if_pos rfl]
    · rw [if_neg (show ¬ nI 1 = 0 by decide), if_neg (by decide)]
  | r + 1, c, n, a, hc, hn, hR => by
    obtain ⟨n, rfl⟩ := pos_of hn
    have h27 := pw3 hd (w := d) (by omega)
    obtain ⟨a1, e1, e2, e3⟩ := triesM (a := a) hd h0 (w := 1) (code := c) (by decide) (by decide) (by omega)
    obtain ⟨b, a2, e4, e5, e6⟩ := kaM hd h0 (RM_sm hR e2) e3
    have s2 : SmM g a g a2 := SmM_tr e2 (SmM_of e5)
    obtain ⟨a3, e7, e8⟩ := eo10 hd h0 hx r (c + 1) n a2 (by omega) (by omega) (RM_sm hR s2)
    refine ⟨a3, ?_, SmM_tr s2 e8⟩
    have e1' : f_X12_triesCode g a (nI c) 1 = some a1 := e1
    have e4' : f_X12_keepsAll g a1 6 1 = some (if b = true then 1 else 0, a2) := e4
    rw [e_X12_endsOf_10, h0, pwM (by omega) h0, Option.bind_some, if_neg (nI_ge (by omega) (by omega)), e1', Option.bind_some, e4', Option.bind_some]
    dsimp only
    cases hb : b with
    | false =>
      have hno : ¬ Kp d R pl tu 1 (dg d c) := fun q => by rw [e6.mpr q] at hb; cases hb
      rw [mn_0 hno, cb_0 (P := fun c => Kp d R pl tu 1 (dg d c)) hno] at e7
      rw [if_pos (by decide), show nI c + 1 = nI (c + 1) from nI_1 c]
      exact e7
    | true =>
      rw [mn_1 (e6.mp hb), cb_1 (P := fun c => Kp d R pl tu 1 (dg d c)) (e6.mp hb)] at e7
      have hm := mn_le (d := d) (R := R) (pl := pl) (tu := tu) c
      rw [if_neg (by decide), show nI (cb (fun c => Kp d R pl tu 1 (dg d c)) c) + 1 = nI (cb (fun c => Kp d R pl tu 1 (dg d c)) c + 1) from nI_1 _]
      refine Eq.trans ?_ e7
      exact eo49 hd h0 (OpM_sm e3 e5) (by omega) (K := f_X12_endsOf_10 g n) d 0 fu (by omega) (fu_gt (by omega))
theorem ob1_ends : ob_ends Cpl := by
  intro g a gm am h
  have hC := h
  obtain ⟨d, R, K, T, V, C, pl, tu, ar, ch, cr, an, cv, hB, h0, hR, hK, hT, hI⟩ := h
  have hd := hB.1
  have h27 := pw3 hd (w := d) (by omega)
  obtain ⟨g', a', e1, e2⟩ := ce4 (d ^ d) 0 fu g a (by omega) (fu_gt (by omega)) hB (RX_of hR)
  obtain ⟨am', m1, m2⟩ := eo10 (g := upd gm 8 0) (x1 := 0) hd ((upd_n _ _ (by decide)).trans h0) (by decide) (d ^ d) 0 fu am (by omega) (fu_gt (by omega)) (RM_of hR)
  refine ⟨(nI (cb (fun c => Kp d R pl tu 1 (dg d c)) (d ^ d)), g', a'), (nI (cb (fun c => Kp d R pl tu 1 (dg d c)) (d ^ d)), upd gm 8 0, am'), ?_, ?_, rfl, Cpl_fr hC (Sm_mo e2 (by decide) (by decide)) (SmM_tr SmM_8 m2)⟩
  · unfold f_X11_ends f_X3_countEnds
    rw [show f_X3_countEnds_4 fu g a 0 0 = _ from e1, Option.bind_some]
  · unfold f_X12_ends f_X12_endsOf
    rw [show upd gm 8 0 0 = nI d from (upd_n _ _ (by decide)).trans h0, show f_X12_endsOf_10 (upd gm 8 0) fu am 0 0 (nI d) 0 = _ from m1, Option.bind_some, if_pos rfl]
theorem ob1_core : ob_core Cpl := by
  intro g a gm am h
  have hC := h
  obtain ⟨d, R, K, T, V, C, pl, tu, ar, ch, cr, an, cv, hB, h0, hR, hK, hT, hI⟩ := h
  have hd := hB.1
  have h27 := pw3 hd (w := d) (by omega)
  obtain ⟨g', a', e1, e2⟩ := fe10 (d ^ d) 0 fu g a (by omega) (fu_gt (by omega)) hB (RX_of hR)
  obtain ⟨am', m1, m2⟩ := eo10 (g := upd gm 8 0) (x1 := 1) hd ((upd_n _ _ (by decide)).trans h0) (by decide) (d ^ d) 0 fu am (by omega) (fu_gt (by omega)) (RM_of hR)
  refine ⟨(nI (mn d R pl tu (d ^ d)), g', a'), (nI (mn d R pl tu (d ^ d)), upd gm 8 0, am'), ?_, ?_, rfl, Cpl_fr hC (Sm_mo e2 (by decide) (by decide)) (SmM_tr SmM_8 m2)⟩
  · unfold f_X11_core f_X3_fewestEndValues
    rw [hB.2.1, show f_X3_fewestEndValues_10 fu g a (nI d) 0 = _ from e1, Option.bind_some]
  · unfold f_X12_core f_X12_endsOf
    rw [show upd gm 8 0 0 = nI d from (upd_n _ _ (by decide)).trans h0, show f_X12_endsOf_10 (upd gm 8 0) fu am 1 0 (nI d) 0 = _ from m1, Option.bind_some, if_neg (by decide)]
