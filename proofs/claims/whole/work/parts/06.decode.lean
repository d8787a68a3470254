/-! Each method decodes to the rows of part 04, and each row refers to what the tables say. -/
set_option maxRecDepth 100000 in
theorem ok_c0 : ∀ y ∈ [0, 1, 2, 3, 4, 5, 6, 7], (cod y).all (okB y) = true := by decide +kernel
set_option maxRecDepth 100000 in
theorem ok_c1 : ∀ y ∈ [8, 9, 10, 11, 12, 13, 14, 15, 16, 17], (cod y).all (okB y) = true := by decide +kernel
set_option maxRecDepth 100000 in
theorem ok_c2 : ∀ y ∈ [18, 19, 20, 21, 22, 23, 24, 25, 26], (cod y).all (okB y) = true := by decide +kernel
set_option maxRecDepth 100000 in
theorem ok_c3 : ∀ y ∈ [27, 28, 29, 30, 31, 32], (cod y).all (okB y) = true := by decide +kernel
set_option maxRecDepth 100000 in
theorem ok_c4 : ∀ y ∈ [33, 34, 35], (cod y).all (okB y) = true := by decide +kernel
set_option maxRecDepth 100000 in
theorem ok_c5 : ∀ y ∈ [36, 37, 38, 39, 40, 41, 42, 43, 44, 45, 46, 47], (cod y).all (okB y) = true := by decide +kernel
set_option maxRecDepth 100000 in
theorem ok_c6 : ∀ y ∈ [48, 49, 50, 51, 52], (cod y).all (okB y) = true := by decide +kernel
set_option maxRecDepth 100000 in
theorem ok_c7 : ∀ y ∈ [53, 54, 55, 56], (cod y).all (okB y) = true := by decide +kernel
set_option maxRecDepth 100000 in
theorem ok_c8 : ∀ y ∈ [57, 58, 59, 60, 61], (cod y).all (okB y) = true := by decide +kernel
set_option maxRecDepth 100000 in
theorem ok_c9 : ∀ y ∈ [62, 63, 64], (cod y).all (okB y) = true := by decide +kernel
set_option maxRecDepth 100000 in
theorem ok_c10 : ∀ y ∈ [65, 66, 67, 68, 69], (cod y).all (okB y) = true := by decide +kernel
set_option maxRecDepth 100000 in
theorem ok_c11 : ∀ y ∈ [70, 71, 72], (cod y).all (okB y) = true := by decide +kernel
set_option maxRecDepth 100000 in
theorem ok_c12 : ∀ y ∈ [73, 74, 75, 76, 77], (cod y).all (okB y) = true := by decide +kernel
set_option maxRecDepth 100000 in
theorem ok_c13 : ∀ y ∈ [78, 79, 80], (cod y).all (okB y) = true := by decide +kernel
set_option maxRecDepth 100000 in
theorem ok_c14 : ∀ y ∈ [81, 82, 83, 84, 85], (cod y).all (okB y) = true := by decide +kernel
set_option maxRecDepth 100000 in
theorem ok_c15 : ∀ y ∈ [86, 87, 88, 89, 90], (cod y).all (okB y) = true := by decide +kernel
set_option maxRecDepth 100000 in
theorem ok_c16 : ∀ y ∈ [91, 92, 93], (cod y).all (okB y) = true := by decide +kernel
set_option maxRecDepth 100000 in
theorem ok_c17 : ∀ y ∈ [94, 95, 96, 97, 98, 99, 100], (cod y).all (okB y) = true := by decide +kernel
set_option maxRecDepth 100000 in
theorem ok_c18 : ∀ y ∈ [101, 102, 103, 104, 105, 106], (cod y).all (okB y) = true := by decide +kernel
set_option maxRecDepth 100000 in
theorem ok_c19 : ∀ y ∈ [107, 108, 109, 110, 111], (cod y).all (okB y) = true := by decide +kernel
set_option maxRecDepth 100000 in
theorem ok_c20 : ∀ y ∈ [112, 113, 114, 115, 116], (cod y).all (okB y) = true := by decide +kernel
set_option maxRecDepth 100000 in
theorem ok_c21 : ∀ y ∈ [117, 118, 119, 120, 121, 122, 123, 124, 125, 126, 127], (cod y).all (okB y) = true := by decide +kernel
set_option maxRecDepth 100000 in
theorem ok_c22 : ∀ y ∈ [128, 129, 130, 131, 132, 133, 134, 135, 136, 137, 138, 139, 140], (cod y).all (okB y) = true := by decide +kernel
set_option maxRecDepth 100000 in
theorem ok_c23 : ∀ y ∈ [141, 142, 143, 144, 145, 146, 147], (cod y).all (okB y) = true := by decide +kernel
set_option maxRecDepth 100000 in
theorem ok_c24 : ∀ y ∈ [148, 149, 150, 151, 152], (cod y).all (okB y) = true := by decide +kernel
set_option maxRecDepth 100000 in
theorem ok_c25 : ∀ y ∈ [153, 154, 155, 156, 157, 158, 159], (cod y).all (okB y) = true := by decide +kernel
set_option maxRecDepth 100000 in
theorem ok_c26 : ∀ y ∈ [160, 161, 162, 163], (cod y).all (okB y) = true := by decide +kernel
set_option maxRecDepth 100000 in
theorem ok_c27 : ∀ y ∈ [164, 165, 166, 167, 168, 169, 170], (cod y).all (okB y) = true := by decide +kernel
set_option maxRecDepth 100000 in
theorem ok_c28 : ∀ y ∈ [171, 172, 173, 174], (cod y).all (okB y) = true := by decide +kernel
set_option maxRecDepth 100000 in
theorem ok_c29 : ∀ y ∈ [175, 176, 177, 178, 179, 180, 181], (cod y).all (okB y) = true := by decide +kernel
set_option maxRecDepth 100000 in
theorem ok_c30 : ∀ y ∈ [182, 183, 184, 185, 186, 187, 188], (cod y).all (okB y) = true := by decide +kernel
set_option maxRecDepth 100000 in
theorem ok_c31 : ∀ y ∈ [189, 190], (cod y).all (okB y) = true := by decide +kernel
set_option maxRecDepth 100000 in
theorem ok_c32 : ∀ y ∈ [191, 192, 193, 194, 195, 196], (cod y).all (okB y) = true := by decide +kernel
set_option maxRecDepth 100000 in
theorem ok_c33 : ∀ y ∈ [197, 198, 199, 200, 201], (cod y).all (okB y) = true := by decide +kernel
set_option maxRecDepth 100000 in
theorem ok_c34 : ∀ y ∈ [202, 203, 204], (cod y).all (okB y) = true := by decide +kernel
set_option maxRecDepth 100000 in
theorem ok_c35 : ∀ y ∈ [205, 206, 207], (cod y).all (okB y) = true := by decide +kernel
set_option maxRecDepth 100000 in
theorem ok_c36 : ∀ y ∈ [208], (cod y).all (okB y) = true := by decide +kernel
set_option maxRecDepth 100000 in
theorem ok_c37 : ∀ y ∈ [209, 210, 211, 212], (cod y).all (okB y) = true := by decide +kernel
set_option maxRecDepth 100000 in
theorem ok_c38 : ∀ y ∈ [213, 214, 215, 216], (cod y).all (okB y) = true := by decide +kernel
set_option maxRecDepth 100000 in
theorem ok_c39 : ∀ y ∈ [217, 218, 219, 220], (cod y).all (okB y) = true := by decide +kernel
set_option maxRecDepth 100000 in
theorem ok_c40 : ∀ y ∈ [221, 222], (cod y).all (okB y) = true := by decide +kernel
set_option maxRecDepth 100000 in
theorem ok_c41 : ∀ y ∈ [223, 224], (cod y).all (okB y) = true := by decide +kernel
set_option maxRecDepth 100000 in
theorem ok_c42 : ∀ y ∈ [225, 226], (cod y).all (okB y) = true := by decide +kernel
set_option maxRecDepth 100000 in
theorem ok_c43 : ∀ y ∈ [227, 228], (cod y).all (okB y) = true := by decide +kernel
set_option maxRecDepth 100000 in
theorem ok_c44 : ∀ y ∈ [229, 230, 231, 232], (cod y).all (okB y) = true := by decide +kernel
set_option maxRecDepth 100000 in
theorem ok_c45 : ∀ y ∈ [233, 234, 235, 236], (cod y).all (okB y) = true := by decide +kernel
set_option maxRecDepth 100000 in
theorem ok_c46 : ∀ y ∈ [237, 238], (cod y).all (okB y) = true := by decide +kernel
set_option maxRecDepth 100000 in
theorem ok_c47 : ∀ y ∈ [239], (cod y).all (okB y) = true := by decide +kernel
set_option maxRecDepth 100000 in
theorem ok_c48 : ∀ y ∈ [240, 241, 242, 243], (cod y).all (okB y) = true := by decide +kernel
set_option maxRecDepth 100000 in
theorem ok_c49 : ∀ y ∈ [244, 245], (cod y).all (okB y) = true := by decide +kernel
set_option maxRecDepth 100000 in
theorem ok_c50 : ∀ y ∈ [246, 247], (cod y).all (okB y) = true := by decide +kernel
set_option maxRecDepth 100000 in
theorem ok_c51 : ∀ y ∈ [248, 249, 250, 251], (cod y).all (okB y) = true := by decide +kernel
set_option maxRecDepth 100000 in
theorem ok_c52 : ∀ y ∈ [252, 253], (cod y).all (okB y) = true := by decide +kernel
set_option maxRecDepth 100000 in
theorem ok_c53 : ∀ y ∈ [254, 255, 256], (cod y).all (okB y) = true := by decide +kernel
set_option maxRecDepth 100000 in
theorem ok_c54 : ∀ y ∈ [257, 258, 259, 260], (cod y).all (okB y) = true := by decide +kernel
set_option maxRecDepth 100000 in
theorem ok_c55 : ∀ y ∈ [261, 262, 263, 264, 265, 266, 267, 268, 269, 270, 271, 272, 273], (cod y).all (okB y) = true := by decide +kernel
set_option maxRecDepth 100000 in
theorem ok_c56 : ∀ y ∈ [274, 275, 276, 277, 278], (cod y).all (okB y) = true := by decide +kernel
def yAll : List Nat := [0, 1, 2, 3, 4, 5, 6, 7] ++ [8, 9, 10, 11, 12, 13, 14, 15, 16, 17] ++ [18, 19, 20, 21, 22, 23, 24, 25, 26] ++ [27, 28, 29, 30, 31, 32] ++ [33, 34, 35] ++ [36, 37, 38, 39, 40, 41, 42, 43, 44, 45, 46, 47] ++ [48, 49, 50, 51, 52] ++ [53, 54, 55, 56] ++ [57, 58, 59, 60, 61] ++ [62, 63, 64] ++ [65, 66, 67, 68, 69] ++ [70, 71, 72] ++ [73, 74, 75, 76, 77] ++ [78, 79, 80] ++ [81, 82, 83, 84, 85] ++ [86, 87, 88, 89, 90] ++ [91, 92, 93] ++ [94, 95, 96, 97, 98, 99, 100] ++ [101, 102, 103, 104, 105, 106] ++ [107, 108, 109, 110, 111] ++ [112, 113, 114, 115, 116] ++ [117, 118, 119, 120, 121, 122, 123, 124, 125, 126, 127] ++ [128, 129, 130, 131, 132, 133, 134, 135, 136, 137, 138, 139, 140] ++ [141, 142, 143, 144, 145, 146, 147] ++ [148, 149, 150, 151, 152] ++ [153, 154, 155, 156, 157, 158, 159] ++ [160, 161, 162, 163] ++ [164, 165, 166, 167, 168, 169, 170] ++ [171, 172, 173, 174] ++ [175, 176, 177, 178, 179, 180, 181] ++ [182, 183, 184, 185, 186, 187, 188] ++ [189, 190] ++ [191, 192, 193, 194, 195, 196] ++ [197, 198, 199, 200, 201] ++ [202, 203, 204] ++ [205, 206, 207] ++ [208] ++ [209, 210, 211, 212] ++ [213, 214, 215, 216] ++ [217, 218, 219, 220] ++ [221, 222] ++ [223, 224] ++ [225, 226] ++ [227, 228] ++ [229, 230, 231, 232] ++ [233, 234, 235, 236] ++ [237, 238] ++ [239] ++ [240, 241, 242, 243] ++ [244, 245] ++ [246, 247] ++ [248, 249, 250, 251] ++ [252, 253] ++ [254, 255, 256] ++ [257, 258, 259, 260] ++ [261, 262, 263, 264, 265, 266, 267, 268, 269, 270, 271, 272, 273] ++ [274, 275, 276, 277, 278]
theorem ok_y : ∀ y ∈ yAll, (cod y).all (okB y) = true := (List.forall_mem_append.mpr ⟨(List.forall_mem_append.mpr ⟨(List.forall_mem_append.mpr ⟨(List.forall_mem_append.mpr ⟨(List.forall_mem_append.mpr ⟨(List.forall_mem_append.mpr ⟨(List.forall_mem_append.mpr ⟨(List.forall_mem_append.mpr ⟨(List.forall_mem_append.mpr ⟨(List.forall_mem_append.mpr ⟨(List.forall_mem_append.mpr ⟨(List.forall_mem_append.mpr ⟨(List.forall_mem_append.mpr ⟨(List.forall_mem_append.mpr ⟨(List.forall_mem_append.mpr ⟨(List.forall_mem_append.mpr ⟨(List.forall_mem_append.mpr ⟨(List.forall_mem_append.mpr ⟨(List.forall_mem_append.mpr ⟨(List.forall_mem_append.mpr ⟨(List.forall_mem_append.mpr ⟨(List.forall_mem_append.mpr ⟨(List.forall_mem_append.mpr ⟨(List.forall_mem_append.mpr ⟨(List.forall_mem_append.mpr ⟨(List.forall_mem_append.mpr ⟨(List.forall_mem_append.mpr ⟨(List.forall_mem_append.mpr ⟨(List.forall_mem_append.mpr ⟨(List.forall_mem_append.mpr ⟨(List.forall_mem_append.mpr ⟨(List.forall_mem_append.mpr ⟨(List.forall_mem_append.mpr ⟨(List.forall_mem_append.mpr ⟨(List.forall_mem_append.mpr ⟨(List.forall_mem_append.mpr ⟨(List.forall_mem_append.mpr ⟨(List.forall_mem_append.mpr ⟨(List.forall_mem_append.mpr ⟨(List.forall_mem_append.mpr ⟨(List.forall_mem_append.mpr ⟨(List.forall_mem_append.mpr ⟨(List.forall_mem_append.mpr ⟨(List.forall_mem_append.mpr ⟨(List.forall_mem_append.mpr ⟨(List.forall_mem_append.mpr ⟨(List.forall_mem_append.mpr ⟨(List.forall_mem_append.mpr ⟨(List.forall_mem_append.mpr ⟨(List.forall_mem_append.mpr ⟨(List.forall_mem_append.mpr ⟨(List.forall_mem_append.mpr ⟨(List.forall_mem_append.mpr ⟨(List.forall_mem_append.mpr ⟨(List.forall_mem_append.mpr ⟨(List.forall_mem_append.mpr ⟨ok_c0, ok_c1⟩), ok_c2⟩), ok_c3⟩), ok_c4⟩), ok_c5⟩), ok_c6⟩), ok_c7⟩), ok_c8⟩), ok_c9⟩), ok_c10⟩), ok_c11⟩), ok_c12⟩), ok_c13⟩), ok_c14⟩), ok_c15⟩), ok_c16⟩), ok_c17⟩), ok_c18⟩), ok_c19⟩), ok_c20⟩), ok_c21⟩), ok_c22⟩), ok_c23⟩), ok_c24⟩), ok_c25⟩), ok_c26⟩), ok_c27⟩), ok_c28⟩), ok_c29⟩), ok_c30⟩), ok_c31⟩), ok_c32⟩), ok_c33⟩), ok_c34⟩), ok_c35⟩), ok_c36⟩), ok_c37⟩), ok_c38⟩), ok_c39⟩), ok_c40⟩), ok_c41⟩), ok_c42⟩), ok_c43⟩), ok_c44⟩), ok_c45⟩), ok_c46⟩), ok_c47⟩), ok_c48⟩), ok_c49⟩), ok_c50⟩), ok_c51⟩), ok_c52⟩), ok_c53⟩), ok_c54⟩), ok_c55⟩), ok_c56⟩)
set_option maxRecDepth 100000 in
theorem yAll_in : ∀ y, y < nY → y ∈ yAll := by decide +kernel
theorem cod_out : ∀ y, ¬ y < nY → cod y = [] := by
  intro y h
  have h1 : kL[y]? = none := List.getElem?_eq_none (by rw [show kL.length = nY by decide +kernel]; omega)
  show kL.getD y [] = []
  rw [List.getD_eq_getElem?_getD, h1]
  rfl
theorem ok_all {y : Nat} {e : En} (h : e ∈ cod y) : y < nY ∧ okB y e = true := by
  by_cases hy : y < nY
  · exact ⟨hy, List.all_eq_true.mp (ok_y y (yAll_in y hy)) e h⟩
  · rw [cod_out y hy] at h
    cases h
