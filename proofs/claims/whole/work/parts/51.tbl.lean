/-! the words that the law has, out of the tables -/
theorem tin_BWc0 : ∀ w ∈ BWc0, w ∈ lw_tbl := by decide +kernel
theorem tin_BWc1 : ∀ w ∈ BWc1, w ∈ lw_tbl := by decide +kernel
theorem tin_BWc2 : ∀ w ∈ BWc2, w ∈ lw_tbl := by decide +kernel
theorem tin_BWc3 : ∀ w ∈ BWc3, w ∈ lw_tbl := by decide +kernel
theorem tin_BWc4 : ∀ w ∈ BWc4, w ∈ lw_tbl := by decide +kernel
theorem tin_BWc5 : ∀ w ∈ BWc5, w ∈ lw_tbl := by decide +kernel
theorem tin_BWc6 : ∀ w ∈ BWc6, w ∈ lw_tbl := by decide +kernel
theorem tin_BWc7 : ∀ w ∈ BWc7, w ∈ lw_tbl := by decide +kernel
theorem tin_BWc8 : ∀ w ∈ BWc8, w ∈ lw_tbl := by decide +kernel
theorem tin_BWc9 : ∀ w ∈ BWc9, w ∈ lw_tbl := by decide +kernel
theorem tin_BWc10 : ∀ w ∈ BWc10, w ∈ lw_tbl := by decide +kernel
theorem tin_BWc11 : ∀ w ∈ BWc11, w ∈ lw_tbl := by decide +kernel
theorem tin_BWc12 : ∀ w ∈ BWc12, w ∈ lw_tbl := by decide +kernel
theorem tin_BWc13 : ∀ w ∈ BWc13, w ∈ lw_tbl := by decide +kernel
theorem tin_BWc14 : ∀ w ∈ BWc14, w ∈ lw_tbl := by decide +kernel
theorem tin_BWc15 : ∀ w ∈ BWc15, w ∈ lw_tbl := by decide +kernel
theorem tin_BWc16 : ∀ w ∈ BWc16, w ∈ lw_tbl := by decide +kernel
theorem tin_BWc17 : ∀ w ∈ BWc17, w ∈ lw_tbl := by decide +kernel
theorem tin_BWc18 : ∀ w ∈ BWc18, w ∈ lw_tbl := by decide +kernel
theorem tin_BWc19 : ∀ w ∈ BWc19, w ∈ lw_tbl := by decide +kernel
theorem tin_BWc20 : ∀ w ∈ BWc20, w ∈ lw_tbl := by decide +kernel
theorem tin_BWfX00 : ∀ w ∈ BWfX00, w ∈ lw_tbl := by decide +kernel
theorem tin_BWfX10 : ∀ w ∈ BWfX10, w ∈ lw_tbl := by decide +kernel
theorem tin_BWfX100 : ∀ w ∈ BWfX100, w ∈ lw_tbl := by decide +kernel
theorem tin_BWfX110 : ∀ w ∈ BWfX110, w ∈ lw_tbl := by decide +kernel
theorem tin_BWfX120 : ∀ w ∈ BWfX120, w ∈ lw_tbl := by decide +kernel
theorem tin_BWfX20 : ∀ w ∈ BWfX20, w ∈ lw_tbl := by decide +kernel
theorem tin_BWfX30 : ∀ w ∈ BWfX30, w ∈ lw_tbl := by decide +kernel
theorem tin_BWfX40 : ∀ w ∈ BWfX40, w ∈ lw_tbl := by decide +kernel
theorem tin_BWfX50 : ∀ w ∈ BWfX50, w ∈ lw_tbl := by decide +kernel
theorem tin_BWfX60 : ∀ w ∈ BWfX60, w ∈ lw_tbl := by decide +kernel
theorem tin_BWfX70 : ∀ w ∈ BWfX70, w ∈ lw_tbl := by decide +kernel
theorem tin_BWfX80 : ∀ w ∈ BWfX80, w ∈ lw_tbl := by decide +kernel
theorem tin_BWfX90 : ∀ w ∈ BWfX90, w ∈ lw_tbl := by decide +kernel
theorem tin_BWt0 : ∀ w ∈ BWt0, w ∈ lw_tbl := by decide +kernel
theorem tin_BWt1 : ∀ w ∈ BWt1, w ∈ lw_tbl := by decide +kernel
theorem tin_BWt2 : ∀ w ∈ BWt2, w ∈ lw_tbl := by decide +kernel
theorem BW_tbl : ∀ w ∈ BW, w ∈ lw_tbl := by
  have h : ∀ c ∈ BWl, ∀ w ∈ c, w ∈ lw_tbl := by
    intro c hc
    simp only [BWl, List.mem_cons, List.not_mem_nil, or_false] at hc
    rcases hc with rfl | rfl | rfl | rfl | rfl | rfl | rfl | rfl | rfl | rfl | rfl | rfl | rfl | rfl | rfl | rfl | rfl | rfl | rfl | rfl | rfl | rfl | rfl | rfl | rfl | rfl | rfl | rfl | rfl | rfl | rfl | rfl | rfl | rfl | rfl | rfl | rfl
    · exact tin_BWc0
    · exact tin_BWc1
    · exact tin_BWc2
    · exact tin_BWc3
    · exact tin_BWc4
    · exact tin_BWc5
    · exact tin_BWc6
    · exact tin_BWc7
    · exact tin_BWc8
    · exact tin_BWc9
    · exact tin_BWc10
    · exact tin_BWc11
    · exact tin_BWc12
    · exact tin_BWc13
    · exact tin_BWc14
    · exact tin_BWc15
    · exact tin_BWc16
    · exact tin_BWc17
    · exact tin_BWc18
    · exact tin_BWc19
    · exact tin_BWc20
    · exact tin_BWfX00
    · exact tin_BWfX10
    · exact tin_BWfX100
    · exact tin_BWfX110
    · exact tin_BWfX120
    · exact tin_BWfX20
    · exact tin_BWfX30
    · exact tin_BWfX40
    · exact tin_BWfX50
    · exact tin_BWfX60
    · exact tin_BWfX70
    · exact tin_BWfX80
    · exact tin_BWfX90
    · exact tin_BWt0
    · exact tin_BWt1
    · exact tin_BWt2
  intro w hw
  obtain ⟨c, hc, hw⟩ := List.mem_flatten.mp hw
  exact h c hc w hw
theorem NW_tbl : ∀ w ∈ NWl, w ∈ lw_tbl := by decide +kernel
theorem TH_tbl : ∀ w ∈ THl, w ∈ lw_tbl := by decide +kernel
theorem ST_tbl : ∀ q ∈ STl, Cond.stringRef RX11 q.1 q.2 ∈ lw_tbl := by decide +kernel
theorem ST_flat : ∀ q ∈ STl, Cond.exactly (Term.string RX11 q.1) "java/lang/String" ∈ flatC (Jvm.Cond.and given_1 narrow_1) := by decide +kernel
theorem O_tbl : Cond.arrayOver (.object "Polymorphium$Operation") ∈ lw_tbl := by decide +kernel
theorem nc_12 : Cond.not (.castable (exN 1) (exN 2)) ∈ flatC (Jvm.Cond.and given_1 narrow_1) := by decide +kernel
theorem nc_13 : Cond.not (.castable (exN 1) (exN 3)) ∈ flatC (Jvm.Cond.and given_1 narrow_1) := by decide +kernel
theorem nc_21 : Cond.not (.castable (exN 2) (exN 1)) ∈ flatC (Jvm.Cond.and given_1 narrow_1) := by decide +kernel
theorem nc_23 : Cond.not (.castable (exN 2) (exN 3)) ∈ flatC (Jvm.Cond.and given_1 narrow_1) := by decide +kernel
theorem nc_31 : Cond.not (.castable (exN 3) (exN 1)) ∈ flatC (Jvm.Cond.and given_1 narrow_1) := by decide +kernel
theorem nc_32 : Cond.not (.castable (exN 3) (exN 2)) ∈ flatC (Jvm.Cond.and given_1 narrow_1) := by decide +kernel
theorem U_1 : Cond.isRef (.static Bundle.tN "UNASSIGNED_STACK" Bundle.steD) ∈ flatC (Jvm.Cond.and given_1 narrow_1) := by decide +kernel
theorem U_2 : Cond.laysStatic Bundle.tN "UNASSIGNED_STACK" Bundle.steD ∈ lw_tbl := by decide +kernel
theorem U_3 : Cond.initialized Bundle.tN ∈ lw_tbl := by decide +kernel
theorem U_4 : Cond.isRef (.static Bundle.tN "SUPPRESSED_SENTINEL" Bundle.listD) ∈ flatC (Jvm.Cond.and given_1 narrow_1) := by decide +kernel
theorem U_5 : Cond.laysStatic Bundle.tN "SUPPRESSED_SENTINEL" Bundle.listD ∈ lw_tbl := by decide +kernel
