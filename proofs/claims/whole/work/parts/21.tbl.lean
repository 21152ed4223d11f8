set_option maxRecDepth 100000 in
theorem ql_wsL_law_r1 : ∀ w ∈ wsL_law_r1, w ∈ lw_tbl := by decide +kernel
set_option maxRecDepth 100000 in
theorem ql_wsL_law_r2 : ∀ w ∈ wsL_law_r2, w ∈ lw_tbl := by decide +kernel
set_option maxRecDepth 100000 in
theorem ql_wsL_law_r3 : ∀ w ∈ wsL_law_r3, w ∈ lw_tbl := by decide +kernel
set_option maxRecDepth 100000 in
theorem ql_wsL_law_r4 : ∀ w ∈ wsL_law_r4, w ∈ lw_tbl := by decide +kernel
set_option maxRecDepth 100000 in
theorem ql_wsL_law_r5 : ∀ w ∈ wsL_law_r5, w ∈ lw_tbl := by decide +kernel
set_option maxRecDepth 100000 in
theorem ql_wsL_law_r6 : ∀ w ∈ wsL_law_r6, w ∈ lw_tbl := by decide +kernel
set_option maxRecDepth 100000 in
theorem ql_wsL_law_r7 : ∀ w ∈ wsL_law_r7, w ∈ lw_tbl := by decide +kernel
set_option maxRecDepth 100000 in
theorem ql_wsL_law_r8 : ∀ w ∈ wsL_law_r8, w ∈ lw_tbl := by decide +kernel
set_option maxRecDepth 100000 in
theorem ql_wsL_law_r9 : ∀ w ∈ wsL_law_r9, w ∈ lw_tbl := by decide +kernel
set_option maxRecDepth 100000 in
theorem ql_wsL_law_r10 : ∀ w ∈ wsL_law_r10, w ∈ lw_tbl := by decide +kernel
set_option maxRecDepth 100000 in
theorem ql_wsL_law_r11 : ∀ w ∈ wsL_law_r11, w ∈ lw_tbl := by decide +kernel
set_option maxRecDepth 100000 in
theorem ql_wsL_law_r12 : ∀ w ∈ wsL_law_r12, w ∈ lw_tbl := by decide +kernel
set_option maxRecDepth 100000 in
theorem ql_wsL_law_r13 : ∀ w ∈ wsL_law_r13, w ∈ lw_tbl := by decide +kernel
set_option maxRecDepth 100000 in
theorem ql_wsL_law_r14 : ∀ w ∈ wsL_law_r14, w ∈ lw_tbl := by decide +kernel
set_option maxRecDepth 100000 in
theorem ql_wsL_law_r15 : ∀ w ∈ wsL_law_r15, w ∈ lw_tbl := by decide +kernel
set_option maxRecDepth 100000 in
theorem ql_wsL_law_r16 : ∀ w ∈ wsL_law_r16, w ∈ lw_tbl := by decide +kernel
set_option maxRecDepth 100000 in
theorem ql_wsL_law_r17 : ∀ w ∈ wsL_law_r17, w ∈ lw_tbl := by decide +kernel
set_option maxRecDepth 100000 in
theorem ql_wsL_law_r18 : ∀ w ∈ wsL_law_r18, w ∈ lw_tbl := by decide +kernel
set_option maxRecDepth 100000 in
theorem ql_wsL_law_r19 : ∀ w ∈ wsL_law_r19, w ∈ lw_tbl := by decide +kernel
set_option maxRecDepth 100000 in
theorem ql_wsL_law_r20 : ∀ w ∈ wsL_law_r20, w ∈ lw_tbl := by decide +kernel
set_option maxRecDepth 100000 in
theorem ql_wsL_law_r21 : ∀ w ∈ wsL_law_r21, w ∈ lw_tbl := by decide +kernel
set_option maxRecDepth 100000 in
theorem ql_wsL_law_r22 : ∀ w ∈ wsL_law_r22, w ∈ lw_tbl := by decide +kernel
set_option maxRecDepth 100000 in
theorem ql_wsL_law_r23 : ∀ w ∈ wsL_law_r23, w ∈ lw_tbl := by decide +kernel
set_option maxRecDepth 100000 in
theorem ql_wsL_law_r24 : ∀ w ∈ wsL_law_r24, w ∈ lw_tbl := by decide +kernel
set_option maxRecDepth 100000 in
theorem ql_wsL_law_r25 : ∀ w ∈ wsL_law_r25, w ∈ lw_tbl := by decide +kernel
set_option maxRecDepth 100000 in
theorem ql_wsL_law_r26 : ∀ w ∈ wsL_law_r26, w ∈ lw_tbl := by decide +kernel
set_option maxRecDepth 100000 in
theorem ql_wsL_law_r27 : ∀ w ∈ wsL_law_r27, w ∈ lw_tbl := by decide +kernel
set_option maxRecDepth 100000 in
theorem ql_wsL_law_r28 : ∀ w ∈ wsL_law_r28, w ∈ lw_tbl := by decide +kernel
set_option maxRecDepth 100000 in
theorem ql_wsL_law_r29 : ∀ w ∈ wsL_law_r29, w ∈ lw_tbl := by decide +kernel
set_option maxRecDepth 100000 in
theorem ql_wsL_law_r30 : ∀ w ∈ wsL_law_r30, w ∈ lw_tbl := by decide +kernel
set_option maxRecDepth 100000 in
theorem ql_wsL_law_r31 : ∀ w ∈ wsL_law_r31, w ∈ lw_tbl := by decide +kernel
set_option maxRecDepth 100000 in
theorem ql_wsL_law_r32 : ∀ w ∈ wsL_law_r32, w ∈ lw_tbl := by decide +kernel
set_option maxRecDepth 100000 in
theorem ql_wsL_law_r33 : ∀ w ∈ wsL_law_r33, w ∈ lw_tbl := by decide +kernel
set_option maxRecDepth 100000 in
theorem ql_wsL_law_r34 : ∀ w ∈ wsL_law_r34, w ∈ lw_tbl := by decide +kernel
set_option maxRecDepth 100000 in
theorem ql_wsL_law_r35 : ∀ w ∈ wsL_law_r35, w ∈ lw_tbl := by decide +kernel
set_option maxRecDepth 100000 in
theorem ql_wsL_law_r36 : ∀ w ∈ wsL_law_r36, w ∈ lw_tbl := by decide +kernel
set_option maxRecDepth 100000 in
theorem ql_wsL_law_r37 : ∀ w ∈ wsL_law_r37, w ∈ lw_tbl := by decide +kernel
set_option maxRecDepth 100000 in
theorem ql_wsL_law_r38 : ∀ w ∈ wsL_law_r38, w ∈ lw_tbl := by decide +kernel
set_option maxRecDepth 100000 in
theorem ql_wsL_law_r39 : ∀ w ∈ wsL_law_r39, w ∈ lw_tbl := by decide +kernel
set_option maxRecDepth 100000 in
theorem ql_wsL_law_r40 : ∀ w ∈ wsL_law_r40, w ∈ lw_tbl := by decide +kernel
set_option maxRecDepth 100000 in
theorem ql_wsL_law_r41 : ∀ w ∈ wsL_law_r41, w ∈ lw_tbl := by decide +kernel
set_option maxRecDepth 100000 in
theorem ql_wsL_law_r42 : ∀ w ∈ wsL_law_r42, w ∈ lw_tbl := by decide +kernel
set_option maxRecDepth 100000 in
theorem ql_wsL_law_r43 : ∀ w ∈ wsL_law_r43, w ∈ lw_tbl := by decide +kernel
set_option maxRecDepth 100000 in
theorem ql_wsL_law_r44 : ∀ w ∈ wsL_law_r44, w ∈ lw_tbl := by decide +kernel
set_option maxRecDepth 100000 in
theorem ql_wsL_law_r45 : ∀ w ∈ wsL_law_r45, w ∈ lw_tbl := by decide +kernel
set_option maxRecDepth 100000 in
theorem ql_wsL_law_r46 : ∀ w ∈ wsL_law_r46, w ∈ lw_tbl := by decide +kernel
set_option maxRecDepth 100000 in
theorem ql_wsL_law_r47 : ∀ w ∈ wsL_law_r47, w ∈ lw_tbl := by decide +kernel
set_option maxRecDepth 100000 in
theorem ql_wsL_law_r48 : ∀ w ∈ wsL_law_r48, w ∈ lw_tbl := by decide +kernel
set_option maxRecDepth 100000 in
theorem ql_wsL_law_r49 : ∀ w ∈ wsL_law_r49, w ∈ lw_tbl := by decide +kernel
set_option maxRecDepth 100000 in
theorem ql_wsX80 : ∀ w ∈ wsX80, w ∈ lw_tbl := by decide +kernel
set_option maxRecDepth 100000 in
theorem ql_wsX90 : ∀ w ∈ wsX90, w ∈ lw_tbl := by decide +kernel
set_option maxRecDepth 100000 in
theorem ql_wsX20 : ∀ w ∈ wsX20, w ∈ lw_tbl := by decide +kernel
set_option maxRecDepth 100000 in
theorem ql_wsX70 : ∀ w ∈ wsX70, w ∈ lw_tbl := by decide +kernel
set_option maxRecDepth 100000 in
theorem ql_wsX50 : ∀ w ∈ wsX50, w ∈ lw_tbl := by decide +kernel
set_option maxRecDepth 100000 in
theorem ql_wsX60 : ∀ w ∈ wsX60, w ∈ lw_tbl := by decide +kernel
set_option maxRecDepth 100000 in
theorem ql_wsX30 : ∀ w ∈ wsX30, w ∈ lw_tbl := by decide +kernel
set_option maxRecDepth 100000 in
theorem ql_wsX10 : ∀ w ∈ wsX10, w ∈ lw_tbl := by decide +kernel
set_option maxRecDepth 100000 in
theorem ql_wsX00 : ∀ w ∈ wsX00, w ∈ lw_tbl := by decide +kernel
set_option maxRecDepth 100000 in
theorem ql_wsX40 : ∀ w ∈ wsX40, w ∈ lw_tbl := by decide +kernel
theorem wsL_law_in : ∀ w ∈ wsL_law, w ∈ lw_tbl := List.forall_mem_append.mpr ⟨List.forall_mem_append.mpr ⟨List.forall_mem_append.mpr ⟨List.forall_mem_append.mpr ⟨List.forall_mem_append.mpr ⟨List.forall_mem_append.mpr ⟨List.forall_mem_append.mpr ⟨List.forall_mem_append.mpr ⟨List.forall_mem_append.mpr ⟨List.forall_mem_append.mpr ⟨List.forall_mem_append.mpr ⟨List.forall_mem_append.mpr ⟨ql_wsL_law_r1, List.forall_mem_append.mpr ⟨ql_wsL_law_r2, List.forall_mem_append.mpr ⟨ql_wsL_law_r3, List.forall_mem_append.mpr ⟨ql_wsL_law_r4, List.forall_mem_append.mpr ⟨ql_wsL_law_r5, List.forall_mem_append.mpr ⟨ql_wsL_law_r6, List.forall_mem_append.mpr ⟨ql_wsL_law_r7, List.forall_mem_append.mpr ⟨ql_wsL_law_r8, List.forall_mem_append.mpr ⟨ql_wsL_law_r9, List.forall_mem_append.mpr ⟨ql_wsL_law_r10, List.forall_mem_append.mpr ⟨ql_wsL_law_r11, List.forall_mem_append.mpr ⟨ql_wsL_law_r12, List.forall_mem_append.mpr ⟨ql_wsL_law_r13, List.forall_mem_append.mpr ⟨ql_wsL_law_r14, List.forall_mem_append.mpr ⟨ql_wsL_law_r15, List.forall_mem_append.mpr ⟨ql_wsL_law_r16, List.forall_mem_append.mpr ⟨ql_wsL_law_r17, List.forall_mem_append.mpr ⟨ql_wsL_law_r18, List.forall_mem_append.mpr ⟨ql_wsL_law_r19, List.forall_mem_append.mpr ⟨ql_wsL_law_r20, List.forall_mem_append.mpr ⟨ql_wsL_law_r21, List.forall_mem_append.mpr ⟨ql_wsL_law_r22, List.forall_mem_append.mpr ⟨ql_wsL_law_r23, List.forall_mem_append.mpr ⟨ql_wsL_law_r24, List.forall_mem_append.mpr ⟨ql_wsL_law_r25, List.forall_mem_append.mpr ⟨ql_wsL_law_r26, List.forall_mem_append.mpr ⟨ql_wsL_law_r27, List.forall_mem_append.mpr ⟨ql_wsL_law_r28, List.forall_mem_append.mpr ⟨ql_wsL_law_r29, List.forall_mem_append.mpr ⟨ql_wsL_law_r30, List.forall_mem_append.mpr ⟨ql_wsL_law_r31, List.forall_mem_append.mpr ⟨ql_wsL_law_r32, List.forall_mem_append.mpr ⟨ql_wsL_law_r33, List.forall_mem_append.mpr ⟨ql_wsL_law_r34, List.forall_mem_append.mpr ⟨ql_wsL_law_r35, List.forall_mem_append.mpr ⟨ql_wsL_law_r36, List.forall_mem_append.mpr ⟨ql_wsL_law_r37, List.forall_mem_append.mpr ⟨ql_wsL_law_r38, List.forall_mem_append.mpr ⟨ql_wsL_law_r39, List.forall_mem_append.mpr ⟨ql_wsL_law_r40, List.forall_mem_append.mpr ⟨ql_wsL_law_r41, List.forall_mem_append.mpr ⟨ql_wsL_law_r42, List.forall_mem_append.mpr ⟨ql_wsL_law_r43, List.forall_mem_append.mpr ⟨ql_wsL_law_r44, List.forall_mem_append.mpr ⟨ql_wsL_law_r45, List.forall_mem_append.mpr ⟨ql_wsL_law_r46, List.forall_mem_append.mpr ⟨ql_wsL_law_r47, List.forall_mem_append.mpr ⟨ql_wsL_law_r48, ql_wsL_law_r49⟩⟩⟩⟩⟩⟩⟩⟩⟩⟩⟩⟩⟩⟩⟩⟩⟩⟩⟩⟩⟩⟩⟩⟩⟩⟩⟩⟩⟩⟩⟩⟩⟩⟩⟩⟩⟩⟩⟩⟩⟩⟩⟩⟩⟩⟩⟩⟩, ql_wsX80⟩, ql_wsX90⟩, ql_wsX20⟩, ql_wsX70⟩, ql_wsX50⟩, ql_wsX60⟩, ql_wsX30⟩, ql_wsX10⟩, ql_wsX00⟩, ql_wsX40⟩, fun _ h => absurd h List.not_mem_nil⟩
