/-! what the law finds at its start: tables, words, nest -/
theorem lt_at {k : Nat} {w : Cond} (h : tables_1[k]? = some w) : w ∈ lw_tbl := List.mem_append_right (k2_sels lw_privs) (List.mem_of_getElem? h)
theorem ltN_0 : (Cond.methodLinkNest RX10 11 yX4_init "NoWhen") ∈ lw_tbl := lt_at (k := 29) (by decide +kernel)
theorem ltN_1 : (Cond.methodLinkNest RX10 26 yX6_init "NoWhen") ∈ lw_tbl := lt_at (k := 83) (by decide +kernel)
theorem ltN_2 : (Cond.methodLinkNest RX10 33 yX8_init "NoWhen") ∈ lw_tbl := lt_at (k := 100) (by decide +kernel)
theorem ltN_3 : (Cond.methodLinkNest RX8 11 yX4_init "NoWhen") ∈ lw_tbl := lt_at (k := 105) (by decide +kernel)
theorem ltN_4 : (Cond.methodLinkNest RX8 20 yX6_init "NoWhen") ∈ lw_tbl := lt_at (k := 107) (by decide +kernel)
theorem ltN_5 : (Cond.methodLinkNest RX10 44 yX2_init "NoWhen") ∈ lw_tbl := lt_at (k := 130) (by decide +kernel)
theorem ltN_6 : (Cond.methodLinkNest RX10 51 yX7_init "NoWhen") ∈ lw_tbl := lt_at (k := 176) (by decide +kernel)
theorem ltN_7 : (Cond.methodLinkNest RX10 58 yX9_init "NoWhen") ∈ lw_tbl := lt_at (k := 209) (by decide +kernel)
theorem ltN_8 : (Cond.methodLinkNest RX10 65 yX3_init "NoWhen") ∈ lw_tbl := lt_at (k := 231) (by decide +kernel)
theorem ltN_9 : (Cond.methodLinkNest RX10 72 yX0_init "NoWhen") ∈ lw_tbl := lt_at (k := 262) (by decide +kernel)
theorem ltN_10 : (Cond.methodLinkNest RX10 79 yX1_init "NoWhen") ∈ lw_tbl := lt_at (k := 278) (by decide +kernel)
theorem ltN_11 : (Cond.methodLinkNest RX10 86 yX5_init "NoWhen") ∈ lw_tbl := lt_at (k := 302) (by decide +kernel)
theorem ltN_12 : (Cond.methodLinkNest RX5 17 yX9_init "NoWhen") ∈ lw_tbl := lt_at (k := 307) (by decide +kernel)
theorem ltN_13 : (Cond.methodLinkNest RX8 110 yX10_wordOf "NoWhen") ∈ lw_tbl := lt_at (k := 475) (by decide +kernel)
theorem ltN_14 : (Cond.methodLinkNest RX9 26 yX10_setAt "NoWhen") ∈ lw_tbl := lt_at (k := 631) (by decide +kernel)
theorem ltN_15 : (Cond.methodLinkNest RX9 58 yX10_placeOf "NoWhen") ∈ lw_tbl := lt_at (k := 655) (by decide +kernel)
theorem ltN_16 : (Cond.methodLinkNest RX3 49 yX10_setAt "NoWhen") ∈ lw_tbl := lt_at (k := 672) (by decide +kernel)
theorem ltN_17 : (Cond.methodLinkNest RX3 73 yX10_placeOf "NoWhen") ∈ lw_tbl := lt_at (k := 674) (by decide +kernel)
theorem ltN_18 : (Cond.methodLinkNest RX0 24 yX10_setAt "NoWhen") ∈ lw_tbl := lt_at (k := 725) (by decide +kernel)
theorem ltN_19 : (Cond.methodLinkNest RX0 63 yX10_placeOf "NoWhen") ∈ lw_tbl := lt_at (k := 737) (by decide +kernel)
theorem ltN_20 : (Cond.methodLinkNest RX1 43 yX10_setAt "NoWhen") ∈ lw_tbl := lt_at (k := 904) (by decide +kernel)
theorem ltN_21 : (Cond.methodLinkNest RX1 63 yX10_placeOf "NoWhen") ∈ lw_tbl := lt_at (k := 913) (by decide +kernel)
theorem ltN_22 : (Cond.fieldLinkNest RX9 19 "NoWhen" "SETS" "[I" "NoWhen") ∈ lw_tbl := lt_at (k := 629) (by decide +kernel)
theorem ltN_23 : (Cond.fieldLinkNest RX0 19 "NoWhen" "SETS" "[I" "NoWhen") ∈ lw_tbl := lt_at (k := 723) (by decide +kernel)
theorem ltAO : (Cond.arrayOver (.object "NoWhen$History")) ∈ lw_tbl := lt_at (k := 80) (by decide +kernel)
theorem lw_nest {args : Array Value} {s : State} (hts : ∀ w ∈ lw_tbl, w.before args s = true) : nw_nw s := ⟨va_Nw.of rfl (hts _ ltN_0), va_Nw.of rfl (hts _ ltN_1), va_Nw.of rfl (hts _ ltN_2), va_Nw.of rfl (hts _ ltN_3), va_Nw.of rfl (hts _ ltN_4), va_Nw.of rfl (hts _ ltN_5), va_Nw.of rfl (hts _ ltN_6), va_Nw.of rfl (hts _ ltN_7), va_Nw.of rfl (hts _ ltN_8), va_Nw.of rfl (hts _ ltN_9), va_Nw.of rfl (hts _ ltN_10), va_Nw.of rfl (hts _ ltN_11), va_Nw.of rfl (hts _ ltN_12), va_Nw.of rfl (hts _ ltN_13), va_Nw.of rfl (hts _ ltN_14), va_Nw.of rfl (hts _ ltN_15), va_Nw.of rfl (hts _ ltN_16), va_Nw.of rfl (hts _ ltN_17), va_Nw.of rfl (hts _ ltN_18), va_Nw.of rfl (hts _ ltN_19), va_Nw.of rfl (hts _ ltN_20), va_Nw.of rfl (hts _ ltN_21), va_Nw.of rfl (hts _ ltN_22), va_Nw.of rfl (hts _ ltN_23), va_AO.of (hts _ ltAO)⟩
theorem ltI_nw : (Cond.initialized "NoWhen") ∈ lw_tbl := lt_at (k := 1) (by decide +kernel)
theorem ltS_SETS : (Cond.laysStatic "NoWhen" "SETS" "[I") ∈ lw_tbl := lt_at (k := 630) (by decide +kernel)
theorem ltE_SETS : ∀ j : Nat, j < 7 → Cond.eq (.elem (.static "NoWhen" "SETS" "[I") (.int (Int32.ofNat j))) (.int (nw_SETS j)) ∈ flatC (Jvm.Cond.and given_1 narrow_1) := by decide +kernel
theorem lw_SETS {args : Array Value} {s : State} {A : Nat → Prop} (hts : ∀ w ∈ lw_tbl, w.before args s = true) (hs : ∀ w ∈ flatC (Jvm.Cond.and given_1 narrow_1), w.before args s = true) (hA : ∀ a : Nat, a < s.heap.size → ¬ A a) : nw_t1 "SETS" 7 nw_SETS A s s.heap := by
  obtain ⟨t, ht, hT⟩ := va_Tof (tm := .static "NoWhen" "SETS" "[I") (ty := .int) (N := 7) (f := fun j => .int (nw_SETS j)) (A := A) (by decide) (hs _ (by decide +kernel)) (va_eqt (hs (Cond.eq (.length (.static "NoWhen" "SETS" "[I")) (.int 7)) (by decide +kernel))) (fun j hj => va_eqt (hs _ (ltE_SETS j hj))) hA
  exact ⟨t, va_Zof (hts _ ltS_SETS) (hts _ ltI_nw) ht hA, hT⟩
theorem ltS_SET_AT : (Cond.laysStatic "NoWhen" "SET_AT" "[I") ∈ lw_tbl := lt_at (k := 635) (by decide +kernel)
theorem ltE_SET_AT : ∀ j : Nat, j < 27 → Cond.eq (.elem (.static "NoWhen" "SET_AT" "[I") (.int (Int32.ofNat j))) (.int (nw_SET_AT j)) ∈ flatC (Jvm.Cond.and given_1 narrow_1) := by decide +kernel
theorem lw_SET_AT {args : Array Value} {s : State} {A : Nat → Prop} (hts : ∀ w ∈ lw_tbl, w.before args s = true) (hs : ∀ w ∈ flatC (Jvm.Cond.and given_1 narrow_1), w.before args s = true) (hA : ∀ a : Nat, a < s.heap.size → ¬ A a) : nw_t1 "SET_AT" 27 nw_SET_AT A s s.heap := by
  obtain ⟨t, ht, hT⟩ := va_Tof (tm := .static "NoWhen" "SET_AT" "[I") (ty := .int) (N := 27) (f := fun j => .int (nw_SET_AT j)) (A := A) (by decide) (hs _ (by decide +kernel)) (va_eqt (hs (Cond.eq (.length (.static "NoWhen" "SET_AT" "[I")) (.int 27)) (by decide +kernel))) (fun j hj => va_eqt (hs _ (ltE_SET_AT j hj))) hA
  exact ⟨t, va_Zof (hts _ ltS_SET_AT) (hts _ ltI_nw) ht hA, hT⟩
theorem ltS_PLACE_OF : (Cond.laysStatic "NoWhen" "PLACE_OF" "[I") ∈ lw_tbl := lt_at (k := 659) (by decide +kernel)
theorem ltE_PLACE_OF : ∀ j : Nat, j < 64 → Cond.eq (.elem (.static "NoWhen" "PLACE_OF" "[I") (.int (Int32.ofNat j))) (.int (nw_PLACE_OF j)) ∈ flatC (Jvm.Cond.and given_1 narrow_1) := by decide +kernel
theorem lw_PLACE_OF {args : Array Value} {s : State} {A : Nat → Prop} (hts : ∀ w ∈ lw_tbl, w.before args s = true) (hs : ∀ w ∈ flatC (Jvm.Cond.and given_1 narrow_1), w.before args s = true) (hA : ∀ a : Nat, a < s.heap.size → ¬ A a) : nw_t1 "PLACE_OF" 64 nw_PLACE_OF A s s.heap := by
  obtain ⟨t, ht, hT⟩ := va_Tof (tm := .static "NoWhen" "PLACE_OF" "[I") (ty := .int) (N := 64) (f := fun j => .int (nw_PLACE_OF j)) (A := A) (by decide) (hs _ (by decide +kernel)) (va_eqt (hs (Cond.eq (.length (.static "NoWhen" "PLACE_OF" "[I")) (.int 64)) (by decide +kernel))) (fun j hj => va_eqt (hs _ (ltE_PLACE_OF j hj))) hA
  exact ⟨t, va_Zof (hts _ ltS_PLACE_OF) (hts _ ltI_nw) ht hA, hT⟩
theorem ltR : ∀ i : Nat, i < 12 → tables_1[478 + i]? = some (Cond.stringRef "NoWhen" (nw_sidx.getD i 0) (nw_stx.getD i "")) := by decide +kernel
theorem ltX1 : ∀ i : Nat, i < 12 → Cond.exactly (.string "NoWhen" (nw_sidx.getD i 0)) "java/lang/String" ∈ flatC (Jvm.Cond.and given_1 narrow_1) := by decide +kernel
theorem ltX2 : ∀ i : Nat, i < 12 → Cond.eq (.field (.string "NoWhen" (nw_sidx.getD i 0)) "java/lang/String" "coder" "B") (.int 0) ∈ flatC (Jvm.Cond.and given_1 narrow_1) := by decide +kernel
theorem ltX3 : ∀ i : Nat, i < 12 → Cond.arrayOf (.field (.string "NoWhen" (nw_sidx.getD i 0)) "java/lang/String" "value" "[B") .byte ∈ flatC (Jvm.Cond.and given_1 narrow_1) := by decide +kernel
theorem ltX4 : ∀ i : Nat, i < 12 → Cond.eq (.length (.field (.string "NoWhen" (nw_sidx.getD i 0)) "java/lang/String" "value" "[B")) (.int (Int32.ofNat (nw_len.getD i 0))) ∈ flatC (Jvm.Cond.and given_1 narrow_1) := by decide +kernel
theorem ltX5 : ∀ i : Nat, i < 12 → ∀ j : Nat, j < nw_len.getD i 0 → Cond.eq (.elem (.field (.string "NoWhen" (nw_sidx.getD i 0)) "java/lang/String" "value" "[B") (.int (Int32.ofNat j))) (.int ((nw_byt.getD i []).getD j 0)) ∈ flatC (Jvm.Cond.and given_1 narrow_1) := by decide +kernel
theorem ltX6 : ∀ i : Nat, i < 12 → ∀ j : Nat, j < 12 → i ≠ j → Cond.not (Cond.eq (.string "NoWhen" (nw_sidx.getD i 0)) (.string "NoWhen" (nw_sidx.getD j 0))) ∈ flatC (Jvm.Cond.and given_1 narrow_1) ∨ Cond.not (Cond.eq (.string "NoWhen" (nw_sidx.getD j 0)) (.string "NoWhen" (nw_sidx.getD i 0))) ∈ flatC (Jvm.Cond.and given_1 narrow_1) := by decide +kernel
theorem ltC1 : (Cond.laysStatic "java/lang/String" "COMPACT_STRINGS" "Z") ∈ lw_tbl := lt_at (k := 503) (by decide +kernel)
theorem ltC2 : (Cond.initialized "java/lang/String") ∈ lw_tbl := lt_at (k := 13) (by decide +kernel)
theorem ltC3 : (Cond.laysStatic "jdk/internal/util/Preconditions" "SIOOBE_FORMATTER" "Ljava/util/function/BiFunction;") ∈ lw_tbl := lt_at (k := 519) (by decide +kernel)
theorem ltC4 : (Cond.initialized "jdk/internal/util/Preconditions") ∈ lw_tbl := lt_at (k := 15) (by decide +kernel)
theorem lw_tb0 {args : Array Value} {s : State} {A : Nat → Prop} (hts : ∀ w ∈ lw_tbl, w.before args s = true) (hgv : (Jvm.Cond.and given_1 narrow_1).before args s = true) (hA : ∀ a : Nat, a < s.heap.size → ¬ A a) : nw_tb A s s.heap := by
  have hs := flat_of_before _ hgv
  obtain ⟨adK, adV, h1, h2⟩ := vk_Sof (N := 12) (tm := fun i => .string "NoWhen" (nw_sidx.getD i 0)) (len := nw_len) (byt := nw_byt) (A := A) (by decide) (fun i hi => hs _ (ltX1 i hi)) (fun i hi => hs _ (ltX2 i hi)) (fun i hi => hs _ (ltX3 i hi)) (fun i hi => hs _ (ltX4 i hi)) (fun i hi j hj => hs _ (ltX5 i hi j hj)) (fun i j hi hj hij => (ltX6 i hi j hj hij).elim (fun h => Or.inl (hs _ h)) (fun h => Or.inr (hs _ h))) hA
  refine ⟨lw_SETS hts hs hA, lw_SET_AT hts hs hA, lw_PLACE_OF hts hs hA, ⟨adK, adV, h1, fun i hi => ?_, ?_, ?_⟩, lw_nest hts⟩
  · have hr := hts _ (lt_at (ltR i hi))
    refine vk_R.of hr ?_
    have := h2 i hi
    rw [← this]
  · exact va_Zof (hts _ ltC1) (hts _ ltC2) (va_eqt (hs (Cond.eq (.static "java/lang/String" "COMPACT_STRINGS" "Z") (.int 1)) (by decide +kernel))) hA
  · exact va_Zqof (hts _ ltC3) (hts _ ltC4) (hs (Cond.isRef (.static "jdk/internal/util/Preconditions" "SIOOBE_FORMATTER" "Ljava/util/function/BiFunction;")) (by decide +kernel)) hA
