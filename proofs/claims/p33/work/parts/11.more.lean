/-! the operations' own get; switches; options -/
def getF (n i : Int32) : Option Nat := if i < 0 then none else if n ≤ i then none else if 6 ≤ i then none else some i.toNatClampNeg
theorem getF_lt {n i : Int32} {k : Nat} (h : getF n i = some k) : k < 7 := by
  unfold getF at h
  split at h
  · cases h
  · rename_i h0
    split at h
    · cases h
    · split at h
      · cases h
      · rename_i h1
        cases h
        rcases pk_ix i (n := 6) (by decide) with h2 | h2 | ⟨j, hj, rfl⟩
        · exact absurd h2 h0
        · exact absurd h2 h1
        · rw [nI_clamp (by omega)]; omega
def om {α : Type} (x : Option Nat) (n : α) (f : Nat → α) : α := match x with
  | none => n
  | some i => f i
theorem om_none {α : Type} {x : Option Nat} {n : α} {f : Nat → α} (h : x = none) : om x n f = n := by rw [h]; rfl
theorem om_some {α : Type} {x : Option Nat} {n : α} {f : Nat → α} {i : Nat} (h : x = some i) : om x n f = f i := by rw [h]; rfl
theorem tsw0 {x : Int32} (n : Nat) (hn : n < 1000) (h : ∀ i, i < n → ¬ x = Int32.ofNat i) : x.toInt < 0 ∨ (n : Int) - 1 < x.toInt := by
  by_cases h1 : x.toInt < 0
  · exact Or.inl h1
  · by_cases h2 : (n : Int) - 1 < x.toInt
    · exact Or.inr h2
    · exfalso
      obtain ⟨j, hj, rfl⟩ := nI_of (x := x) (by
        intro h3
        exact h1 (Int32.lt_iff_toInt_lt.mp h3))
      rw [nI_toInt hj] at h2
      exact h j (by omega) rfl
set_option maxRecDepth 100000 in
set_option maxHeartbeats 4000000 in
theorem c_X6_get (l : Launch) (E : xE) (g : xG) (a : xA) (v1 : Int32) : xM l E yX6_get cX6_get 2 (some (.object "Polymorphium$Operation")) 0 0 [.ref (E.2.1 10), .int v1] (wX E g a) (xQq E ((getF (g 4) v1).map (fun k => E.2.1 (40 + k))) (wX E g a)) := by
  refine xM_of (by decide) (Nat.le_of_ble_eq_true rfl) ?_
  intro p e s m below meth c A hx hb hr hml hts hown hlocks hA hD hP hK hN hS ls hl
  have hw : ∀ w ∈ BW, w.before _ s = true := fun w h => hts w (List.mem_cons_of_mem _ h)
  have hl : lv_has ls 2 [(0, .ref (E.2.1 10)), (1, .int v1)] := hl
  refine lv_iload_n hx hb dX6_get_0 rfl (lv_at hl 1 rfl) ?_
  refine lv_if_lt (tgt := 30) hx hb dX6_get_1 (by decide) (fun c1 => ?_) (fun c1 => ?_)
  · refine lv_null hx hb dX6_get_30 ?_
    exact xq_ret hx hb hr (Or.inl ⟨_, rfl⟩) hlocks hP hS (by rw [getF, if_pos c1]; rfl) dX6_get_31
  · refine lv_iload_n hx hb dX6_get_4 rfl (lv_at hl 1 rfl) ?_
    refine lv_aload_n hx hb dX6_get_5 rfl (lv_at hl 0 rfl) ?_
    refine va_get (C := RX6) (T := TX6) (N := 5) hx hb hw bfX60 hown hK hP 10 (gx_10 E g a) rfl 0 (by decide) (hw _ bw446) (fun _ h9 => h9) rfl dX6_get_6 ?_
    refine lv_icmp_ge (tgt := 30) hx hb dX6_get_9 (by decide) (fun c2 => ?_) (fun c2 => ?_)
    · refine lv_null hx hb dX6_get_30 ?_
      exact xq_ret hx hb hr (Or.inl ⟨_, rfl⟩) hlocks hP hS (by rw [getF, if_neg c1, if_pos c2]; rfl) dX6_get_31
    · refine lv_iload_n hx hb dX6_get_12 rfl (lv_at hl 1 rfl) ?_
      refine lv_aload_n hx hb dX6_get_13 rfl (lv_at hl 0 rfl) ?_
      refine va_get (C := RX6) (T := TX6) (N := 5) hx hb hw bfX60 hown hK hP 10 (gx_10 E g a) rfl 3 (by decide) (hw _ bw440) (fun _ h9 => h9) rfl dX6_get_14 ?_
      refine va_alen (v := 6) hx hb hK hP 11 2 (gx_11 E g a) rfl rfl dX6_get_17 ?_
      refine lv_icmp_ge (tgt := 30) hx hb dX6_get_18 (by decide) (fun c3 => ?_) (fun c3 => ?_)
      · refine lv_null hx hb dX6_get_30 ?_
        exact xq_ret hx hb hr (Or.inl ⟨_, rfl⟩) hlocks hP hS (by rw [getF, if_neg c1, if_neg c2, if_pos c3]; rfl) dX6_get_31
      · refine lv_aload_n hx hb dX6_get_21 rfl (lv_at hl 0 rfl) ?_
        refine va_get (C := RX6) (T := TX6) (N := 5) hx hb hw bfX60 hown hK hP 10 (gx_10 E g a) rfl 3 (by decide) (hw _ bw440) (fun _ h9 => h9) rfl dX6_get_22 ?_
        refine lv_iload_n hx hb dX6_get_25 rfl (lv_at hl 1 rfl) ?_
        refine va_aldq hx hb hK hP 11 2 (gx_11 E g a) rfl (in_of (by decide) c1 c3) dX6_get_26 ?_
        refine lv_goto (tgt := 31) hx hb dX6_get_27 (by decide) ?_
        exact xq_ret hx hb hr (Or.inl ⟨_, rfl⟩) hlocks hP hS (by
          rw [getF, if_neg c1, if_neg c2, if_neg c3]
          rcases pk_ix v1 (n := 6) (by decide) with h2 | h2 | ⟨j, hj, rfl⟩
          · exact absurd h2 c1
          · exact absurd h2 c3
          · rw [nI_clamp (by omega), if_pos hj]; rfl) dX6_get_31
theorem c_X6_getN (l : Launch) (E : xE) (g : xG) (a : xA) (v1 : Int32) (h : getF (g 4) v1 = none) : xM l E yX6_get cX6_get 2 (some (.object "Polymorphium$Operation")) 0 0 [.ref (E.2.1 10), .int v1] (wX E g a) (xQq E none (wX E g a)) := by
  have := c_X6_get l E g a v1
  rw [h] at this
  exact this
theorem c_X6_getS (l : Launch) (E : xE) (g : xG) (a : xA) (v1 : Int32) {k : Nat} (h : getF (g 4) v1 = some k) : xM l E yX6_get cX6_get 2 (some (.object "Polymorphium$Operation")) 0 0 [.ref (E.2.1 10), .int v1] (wX E g a) (xQq E (some (E.2.1 (40 + k))) (wX E g a)) := by
  have := c_X6_get l E g a v1
  rw [h] at this
  exact this
theorem nz0 : narrow .boolean (.int 0) = .int 0 := rfl
theorem nz1 : narrow .boolean (.int 1) = .int 1 := rfl
theorem nzc0 : narrow .char (.int 0) = .int 0 := rfl
