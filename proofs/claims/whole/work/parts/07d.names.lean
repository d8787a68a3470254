theorem in_oi : Cond.instanceMethod objectInit ∈ lw_tbl := List.mem_of_getElem? (i := 182) (by decide +kernel)
theorem in_nat : Cond.native arraycopyName ∈ lw_tbl := List.mem_of_getElem? (i := 566) (by decide +kernel)
theorem in_acs : Cond.static arraycopyName ∈ lw_tbl := List.mem_of_getElem? (i := 565) (by decide +kernel)
theorem in_sys : Cond.initialized "java/lang/System" ∈ lw_tbl := List.mem_of_getElem? (i := 171) (by decide +kernel)
theorem in_oc : Cond.code objectInit ⟨#[0xb1]⟩ 1 none ∈ lw_tbl := List.mem_of_getElem? (i := 183) (by decide +kernel)
theorem in_sv : Cond.fieldLink RJ0 9 RJ0 "value" "[B" ∈ lw_tbl := List.mem_of_getElem? (i := 2068) (by decide +kernel)
theorem in_sc : Cond.fieldLink RJ0 15 RJ0 "coder" "B" ∈ lw_tbl := List.mem_of_getElem? (i := 2069) (by decide +kernel)
theorem in_cs : Cond.fieldLink RJ0 38 RJ0 "COMPACT_STRINGS" "Z" ∈ lw_tbl := List.mem_of_getElem? (i := 310) (by decide +kernel)
theorem in_sf : Cond.fieldLink RJ0 1053 RJ3 "SIOOBE_FORMATTER" "Ljava/util/function/BiFunction;" ∈ lw_tbl := List.mem_of_getElem? (i := 326) (by decide +kernel)
set_option maxRecDepth 100000 in
theorem o_plain : ∀ o, o < 16 → ((o ≠ 14 → plainName (Rn o) = true) ∧ Rn o ≠ "java/lang/invoke/MethodHandle" ∧ Rn o ≠ "java/lang/invoke/VarHandle") := by decide +kernel
set_option maxRecDepth 100000 in
theorem m_plain : plainFor yJ9_abs_067f4 = true ∧ plainFor yJ9_max_7cf53 = true ∧ plainFor yJ9_min_7cf53 = true ∧ plainFor yJ9_min_f86c9 = true := by decide +kernel
set_option maxRecDepth 100000 in
theorem y_cls : ∀ y, y < nY → ((mi y).1 < 16 ∧ mL y ≤ 9 ∧ (yn y).cls = Rn (mi y).1) := by decide +kernel
set_option maxRecDepth 100000 in
theorem y_math : ∀ y, y < nY → (mi y).1 = 14 → yn y = yJ9_abs_067f4 ∨ yn y = yJ9_max_7cf53 ∨ yn y = yJ9_min_7cf53 ∨ yn y = yJ9_min_f86c9 := by decide +kernel
theorem y_plain : ∀ y, y < nY → ((yn y).cls = Rn (mi y).1 ∧ plainFor (yn y) = true ∧ (yn y).cls ≠ "java/lang/invoke/MethodHandle" ∧ (yn y).cls ≠ "java/lang/invoke/VarHandle") := by
  intro y hy
  obtain ⟨h1, h2, h3⟩ := y_cls y hy
  obtain ⟨g1, g2, g3⟩ := o_plain _ h1
  refine ⟨h3, ?_, by rw [h3]; exact g2, by rw [h3]; exact g3⟩
  by_cases hm : (mi y).1 = 14
  · obtain ⟨m1, m2, m3, m4⟩ := m_plain
    rcases y_math y hy hm with q | q | q | q
    · rw [q]; exact m1
    · rw [q]; exact m2
    · rw [q]; exact m3
    · rw [q]; exact m4
  · exact plainFor_of_name (by rw [h3]; exact g1 hm)
set_option maxRecDepth 100000 in
theorem y_in : ∀ y, y < nY → isIn y = true → ((yn y).name = "<init>" ∧ rt y = none) := by decide +kernel
