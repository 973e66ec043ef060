/-! what the start gives -/
theorem ST_flat : ∀ q ∈ STl, Cond.exactly (Term.string RX11 q.1) "java/lang/String" ∈ flatC (Jvm.Cond.and given_1 narrow_1) := by decide +kernel
theorem nc_12 : Cond.not (.castable (exN 1) (exN 2)) ∈ flatC (Jvm.Cond.and given_1 narrow_1) := by decide +kernel
theorem nc_13 : Cond.not (.castable (exN 1) (exN 3)) ∈ flatC (Jvm.Cond.and given_1 narrow_1) := by decide +kernel
theorem nc_21 : Cond.not (.castable (exN 2) (exN 1)) ∈ flatC (Jvm.Cond.and given_1 narrow_1) := by decide +kernel
theorem nc_23 : Cond.not (.castable (exN 2) (exN 3)) ∈ flatC (Jvm.Cond.and given_1 narrow_1) := by decide +kernel
theorem nc_31 : Cond.not (.castable (exN 3) (exN 1)) ∈ flatC (Jvm.Cond.and given_1 narrow_1) := by decide +kernel
theorem nc_32 : Cond.not (.castable (exN 3) (exN 2)) ∈ flatC (Jvm.Cond.and given_1 narrow_1) := by decide +kernel
theorem U_1 : Cond.isRef (.static Bundle.tN "UNASSIGNED_STACK" Bundle.steD) ∈ flatC (Jvm.Cond.and given_1 narrow_1) := by decide +kernel
theorem U_4 : Cond.isRef (.static Bundle.tN "SUPPRESSED_SENTINEL" Bundle.listD) ∈ flatC (Jvm.Cond.and given_1 narrow_1) := by decide +kernel
