/-! at, put, isIn over any world -/
def atF (n : Nat) (f : Nat → Int32) (i : Int32) : Int32 := if i < 0 then 0 else if Int32.ofNat n ≤ i then 0 else f i.toNatClampNeg
def putF (n : Nat) (f : Nat → Int32) (i v : Int32) : Nat → Int32 := if i < 0 then f else if Int32.ofNat n ≤ i then f else upd f i.toNatClampNeg v
def isInF (m s : Int32) : Int32 := if (s >>> (m &&& 31)) &&& 1 = 0 then 0 else 1
theorem in_of {i : Int32} {n : Nat} (hn : n < 2 ^ 31) (h0 : ¬ i < 0) (h1 : ¬ Int32.ofNat n ≤ i) : vp_in i n := by
  rcases pk_ix i hn with h | h | ⟨j, hj, rfl⟩
  · exact absurd h h0
  · exact absurd h h1
  · exact vp_in_nI hj hn
set_option maxRecDepth 100000 in
set_option maxHeartbeats 4000000 in
theorem c_at (l : Launch) (E : xE) (w0 : va_W) (q0 : Nat) {b n : Nat} {f : Nat → Int32} (i : Int32) (h0 : w0[q0]? = some (b, .inl (E.2.2 0, (n, .inl f)))) (hn : n < 2 ^ 31) :
    xM l E yX11_at cX11_at 2 (some .int) 0 0 [.ref b, .int i] w0 (xQi E (atF n f i) w0) := by
  refine xM_of (by decide) (Nat.le_of_ble_eq_true rfl) ?_
  intro p e s m below meth c A hx hb hr hml hts hown hlocks hA hD hP hK hN hS ls hl
  have hl : lv_has ls 2 [(0, .ref b), (1, .int i)] := hl
  refine lv_iload_n hx hb dX11_at_0 rfl (lv_at hl 1 rfl) ?_
  refine lv_if_lt (tgt := 16) hx hb dX11_at_1 (by decide) (fun c1 => ?_) (fun c1 => ?_)
  · refine lv_iconst (v := 0) hx hb dX11_at_16 (by decide) ?_
    exact xi_ret hx hb hr hlocks hP hS (by rw [atF, if_pos c1]) dX11_at_17
  · refine lv_iload_n hx hb dX11_at_4 rfl (lv_at hl 1 rfl) ?_
    refine lv_aload_n hx hb dX11_at_5 rfl (lv_at hl 0 rfl) ?_
    refine va_alen hx hb hK hP q0 0 h0 rfl rfl dX11_at_6 ?_
    refine lv_icmp_ge (tgt := 16) hx hb dX11_at_7 (by decide) (fun c2 => ?_) (fun c2 => ?_)
    · refine lv_iconst (v := 0) hx hb dX11_at_16 (by decide) ?_
      exact xi_ret hx hb hr hlocks hP hS (by rw [atF, if_neg c1, if_pos c2]) dX11_at_17
    · refine lv_aload_n hx hb dX11_at_10 rfl (lv_at hl 0 rfl) ?_
      refine lv_iload_n hx hb dX11_at_11 rfl (lv_at hl 1 rfl) ?_
      refine va_iald hx hb hK hP q0 0 h0 rfl (in_of hn c1 c2) dX11_at_12 ?_
      refine lv_goto (tgt := 17) hx hb dX11_at_13 (by decide) ?_
      exact xi_ret hx hb hr hlocks hP hS (by rw [atF, if_neg c1, if_neg c2]) dX11_at_17
set_option maxRecDepth 100000 in
set_option maxHeartbeats 4000000 in
theorem c_put (l : Launch) (E : xE) (w0 : va_W) (q0 : Nat) {b n : Nat} {f : Nat → Int32} (i v : Int32) (h0 : w0[q0]? = some (b, .inl (E.2.2 0, (n, .inl f)))) (hn : n < 2 ^ 31) {w1 : va_W} (h1 : w0.set q0 (b, .inl (E.2.2 0, (n, .inl (putF n f i v)))) = w1) :
    xM l E yX11_put cX11_put 3 none 0 0 [.ref b, .int i, .int v] w0 (xQv E w1) := by
  refine xM_of (by decide) (Nat.le_of_ble_eq_true rfl) ?_
  intro p e s m below meth c A hx hb hr hml hts hown hlocks hA hD hP hK hN hS ls hl
  have hl : lv_has ls 3 [(0, .ref b), (1, .int i), (2, .int v)] := hl
  have hself : putF n f i v = f → w0 = w1 := fun h => by
    rw [h] at h1
    rw [← h1]
    obtain ⟨hlt, he⟩ := List.getElem?_eq_some_iff.mp h0
    rw [← he, List.set_getElem_self]
  refine lv_iload_n hx hb dX11_put_0 rfl (lv_at hl 1 rfl) ?_
  refine lv_if_lt (tgt := 14) hx hb dX11_put_1 (by decide) (fun c1 => ?_) (fun c1 => ?_)
  · exact xv_ret hx hb hr hlocks (hself (by rw [putF, if_pos c1]) ▸ hP) hS dX11_put_14
  · refine lv_iload_n hx hb dX11_put_4 rfl (lv_at hl 1 rfl) ?_
    refine lv_aload_n hx hb dX11_put_5 rfl (lv_at hl 0 rfl) ?_
    refine va_alen hx hb hK hP q0 0 h0 rfl rfl dX11_put_6 ?_
    refine lv_icmp_ge (tgt := 14) hx hb dX11_put_7 (by decide) (fun c2 => ?_) (fun c2 => ?_)
    · exact xv_ret hx hb hr hlocks (hself (by rw [putF, if_neg c1, if_pos c2]) ▸ hP) hS dX11_put_14
    · refine lv_aload_n hx hb dX11_put_10 rfl (lv_at hl 0 rfl) ?_
      refine lv_iload_n hx hb dX11_put_11 rfl (lv_at hl 1 rfl) ?_
      refine lv_iload_n hx hb dX11_put_12 rfl (lv_at hl 2 rfl) ?_
      refine va_iast hx hb hK hP hD hS q0 0 h0 rfl (in_of hn c1 c2) dX11_put_13 (fun H locs hP hD hS => ?_)
      have e1 : putF n f i v = upd f i.toNatClampNeg v := by rw [putF, if_neg c1, if_neg c2]
      rw [e1] at h1
      exact xv_ret hx hb hr hlocks (h1 ▸ hP) hS dX11_put_14
set_option maxRecDepth 100000 in
set_option maxHeartbeats 4000000 in
theorem c_isIn (l : Launch) (E : xE) (w0 : va_W) (i t : Int32) : xM l E yX11_isIn cX11_isIn 2 (some .boolean) 0 0 [.int i, .int t] w0 (xQi E (isInF i t) w0) := by
  refine xM_of (by decide) (Nat.le_of_ble_eq_true rfl) ?_
  intro p e s m below meth c A hx hb hr hml hts hown hlocks hA hD hP hK hN hS ls hl
  have hl : lv_has ls 2 [(0, .int i), (1, .int t)] := hl
  refine lv_iload_n hx hb dX11_isIn_0 rfl (lv_at hl 1 rfl) ?_
  refine lv_iload_n hx hb dX11_isIn_1 rfl (lv_at hl 0 rfl) ?_
  refine lv_ishr hx hb dX11_isIn_2 ?_
  refine lv_iconst (v := 1) hx hb dX11_isIn_3 (by decide) ?_
  refine lv_iand hx hb dX11_isIn_4 ?_
  refine lv_if_eq (tgt := 12) hx hb dX11_isIn_5 (by decide) (fun c1 => ?_) (fun c1 => ?_)
  · refine lv_iconst (v := 0) hx hb dX11_isIn_12 (by decide) ?_
    exact xz_ret hx hb hr hlocks hP hS (by rw [isInF, if_pos c1]) rfl dX11_isIn_13
  · refine lv_iconst (v := 1) hx hb dX11_isIn_8 (by decide) ?_
    refine lv_goto (tgt := 13) hx hb dX11_isIn_9 (by decide) ?_
    exact xz_ret hx hb hr hlocks hP hS (by rw [isInF, if_neg c1]) rfl dX11_isIn_13
