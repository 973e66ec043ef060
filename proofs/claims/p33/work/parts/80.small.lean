/-! Two plain facts. -/
theorem nI_eqs {x y : Nat} (hx : x < 100) (hy : y < 100) : nI x = nI y ↔ x = y := nI_eq (by omega) (by omega)
theorem ansA {k d w x : Nat} {T : Nat → Nat} {g : xG} {a : xA} (hd : d = 2 ∨ d = 3) (hO : Opr d k w T g a) (hx : x < d ^ w) : t_X5_answerAt k g a (nI x) = nI (T x) := by
  have h27 := pw3 hd hO.2.2.2.1
  unfold t_X5_answerAt
  rw [at_in (by omega) (by decide), (hO.2.2.2.2 _ hx).1]
