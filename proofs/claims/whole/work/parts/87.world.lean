/-! the constants, and what the tables give, at the law's entry -/
def fl1 : List Cond := flatC (Jvm.Cond.and given_1 narrow_1)
abbrev wT (i : Nat) : Term := .static "LakeBins$Word" (znm.getD i "") "LLakeBins$Word;"
abbrev wA : Term := .static "LakeBins$Word" "WORDS" "[LLakeBins$Word;"
abbrev wM : Term := .static "LakeBins$1" "$SwitchMap$LakeBins$Word" "[I"
theorem fl_ex : (List.range 31).all (fun i => decide (Cond.exactly (wT i) "LakeBins$Word" ∈ fl1)) = true := by decide +kernel
theorem fl_or : (List.range 31).all (fun i => decide (Cond.eq (.field (wT i) "java/lang/Enum" "ordinal" "I") (.int (nI i)) ∈ fl1)) = true := by decide +kernel
theorem fl_ke : (List.range 31).all (fun i => decide (Cond.eq (.field (wT i) "LakeBins$Word" "key" "J") (.long (zkey i)) ∈ fl1)) = true := by decide +kernel
theorem fl_va : (List.range 31).all (fun i => decide (Cond.eq (.field (wT i) "LakeBins$Word" "value" "I") (.int (zval i)) ∈ fl1)) = true := by decide +kernel
theorem fl_ma : (List.range 31).all (fun i => decide (Cond.eq (.field (wT i) "LakeBins$Word" "mayName" "Z") (.int (zmay i)) ∈ fl1)) = true := by decide +kernel
theorem fl_el : (List.range 31).all (fun i => decide (Cond.eq (.elem wA (.int (Int32.ofNat i))) (wT i) ∈ fl1)) = true := by decide +kernel
theorem fl_sw : (List.range 31).all (fun i => decide (Cond.eq (.elem wM (.int (Int32.ofNat i))) (.int (zsw i)) ∈ fl1)) = true := by decide +kernel
theorem fl_w1 : Cond.arrayOf wA (.object "LakeBins$Word") ∈ fl1 := by decide +kernel
theorem fl_w2 : Cond.eq (.length wA) (.int 31) ∈ fl1 := by decide +kernel
theorem fl_m1 : Cond.arrayOf wM .int ∈ fl1 := by decide +kernel
theorem fl_m2 : Cond.eq (.length wM) (.int 31) ∈ fl1 := by decide +kernel
theorem fl_t1 : Cond.isRef (.static Bundle.tN "UNASSIGNED_STACK" Bundle.steD) ∈ fl1 := by decide +kernel
theorem fl_t2 : Cond.isRef (.static Bundle.tN "SUPPRESSED_SENTINEL" Bundle.listD) ∈ fl1 := by decide +kernel
theorem tb_la : (List.range 31).all (fun i => decide (Cond.laysStatic "LakeBins$Word" (znm.getD i "") "LLakeBins$Word;" ∈ tables_1)) = true := by decide +kernel
theorem tb_lw : Cond.laysStatic "LakeBins$Word" "WORDS" "[LLakeBins$Word;" ∈ tables_1 := by decide +kernel
theorem tb_lm : Cond.laysStatic "LakeBins$1" "$SwitchMap$LakeBins$Word" "[I" ∈ tables_1 := by decide +kernel
theorem tb_l1 : Cond.laysStatic Bundle.tN "UNASSIGNED_STACK" Bundle.steD ∈ tables_1 := by decide +kernel
theorem tb_l2 : Cond.laysStatic Bundle.tN "SUPPRESSED_SENTINEL" Bundle.listD ∈ tables_1 := by decide +kernel
theorem tb_iw : Cond.initialized "LakeBins$Word" ∈ tables_1 := by decide +kernel
theorem tb_im : Cond.initialized "LakeBins$1" ∈ tables_1 := by decide +kernel
theorem tb_it : Cond.initialized Bundle.tN ∈ tables_1 := by decide +kernel
theorem tb_in : Cond.instantiable RNS 6 ∈ tables_1 := by decide +kernel
theorem tb_aa : Cond.arrayOver (.array .int) ∈ tables_1 := by decide +kernel
theorem tb_ca : Cond.castable NSE NSE ∈ tables_1 := by decide +kernel
theorem tb_bad : ∀ w ∈ zBad, w ∈ lw_tbl := by decide +kernel
