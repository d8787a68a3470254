/-! What the Statement gives of the start. -/
def FL : List Cond := flatC (Jvm.Cond.and given_1 narrow_1)
def tmS (j : Nat) : Term := .string (Rn (SR.getD j (0, 0)).1) (SR.getD j (0, 0)).2
def txS : List String := ["and digits do else find fn if int len let or print return sign text while ", "(){}[],:;=+-*/%&!<", "main", "main", " and digits do else find fn if int len let or print return sign text while ", "(){}[],:;+-*/%&", "fn", "(", ")", ":", "int", "text", ",", "{", "}", "let", "if", "while", "return", "print", "do", "=", "-", "!", "len", "find", "digits", "sign", "[", "]", "o\x72", "and", "==", "!=", "<", "<=", "+", "&", "*", "/", "%", "else", ";", "main"]
def txX : List String := ["n is 1 to 8", "the tape is full", "no program that can be run", "heap is 0 to 4000", "deep is 1 to 12", "what is 0 to 7", "no such place", "nothing was run"]
def sPr : List (Nat × Nat) := (List.range 44).flatMap (fun j => (List.range (sB.getD j []).length).map (fun k => (j, k)))
set_option maxRecDepth 100000 in
theorem fx_ex : ∀ j ∈ List.range 44, Cond.exactly (tmS j) "java/lang/String" ∈ FL := mem_pos (ps := [50, 128, 150, 263, 326, 405, 424, 430, 435, 440, 445, 452, 460, 465, 470, 475, 482, 488, 497, 507, 516, 522, 527, 532, 537, 544, 552, 562, 570, 575, 580, 586, 593, 599, 605, 610, 616, 621, 626, 631, 636, 641, 649, 654]) (by decide +kernel)
set_option maxRecDepth 100000 in
theorem fx_co : ∀ j ∈ List.range 44, Cond.eq (.field (tmS j) "java/lang/String" "coder" "B") (.int 0) ∈ FL := mem_pos (ps := [51, 129, 151, 264, 327, 406, 425, 431, 436, 441, 446, 453, 461, 466, 471, 476, 483, 489, 498, 508, 517, 523, 528, 533, 538, 545, 553, 563, 571, 576, 581, 587, 594, 600, 606, 611, 617, 622, 627, 632, 637, 642, 650, 655]) (by decide +kernel)
set_option maxRecDepth 100000 in
theorem fx_ar : ∀ j ∈ List.range 44, Cond.arrayOf (.field (tmS j) "java/lang/String" "value" "[B") .byte ∈ FL := mem_pos (ps := [52, 130, 152, 265, 328, 407, 426, 432, 437, 442, 447, 454, 462, 467, 472, 477, 484, 490, 499, 509, 518, 524, 529, 534, 539, 546, 554, 564, 572, 577, 582, 588, 595, 601, 607, 612, 618, 623, 628, 633, 638, 643, 651, 656]) (by decide +kernel)
set_option maxRecDepth 100000 in
theorem fx_le : ∀ j ∈ List.range 44, Cond.eq (.length (.field (tmS j) "java/lang/String" "value" "[B")) (.int (Int32.ofNat (sB.getD j []).length)) ∈ FL := mem_pos (ps := [53, 131, 153, 266, 329, 408, 427, 433, 438, 443, 448, 455, 463, 468, 473, 478, 485, 491, 500, 510, 519, 525, 530, 535, 540, 547, 555, 565, 573, 578, 583, 589, 596, 602, 608, 613, 619, 624, 629, 634, 639, 644, 652, 657]) (by decide +kernel)
set_option maxRecDepth 100000 in
theorem fx_el : ∀ q ∈ sPr, Cond.eq (.elem (.field (tmS q.1) "java/lang/String" "value" "[B") (.int (Int32.ofNat q.2))) (.int (Int32.ofInt ((sB.getD q.1 []).getD q.2 0))) ∈ FL := mem_pos (ps := [54, 55, 56, 57, 58, 59, 60, 61, 62, 63, 64, 65, 66, 67, 68, 69, 70, 71, 72, 73, 74, 75, 76, 77, 78, 79, 80, 81, 82, 83, 84, 85, 86, 87, 88, 89, 90, 91, 92, 93, 94, 95, 96, 97, 98, 99, 100, 101, 102, 103, 104, 105, 106, 107, 108, 109, 110, 111, 112, 113, 114, 115, 116, 117, 118, 119, 120, 121, 122, 123, 124, 125, 126, 127, 132, 133, 134, 135, 136, 137, 138, 139, 140, 141, 142, 143, 144, 145, 146, 147, 148, 149, 154, 155, 156, 157, 267, 268, 269, 270, 330, 331, 332, 333, 334, 335, 336, 337, 338, 339, 340, 341, 342, 343, 344, 345, 346, 347, 348, 349, 350, 351, 352, 353, 354, 355, 356, 357, 358, 359, 360, 361, 362, 363, 364, 365, 366, 367, 368, 369, 370, 371, 372, 373, 374, 375, 376, 377, 378, 379, 380, 381, 382, 383, 384, 385, 386, 387, 388, 389, 390, 391, 392, 393, 394, 395, 396, 397, 398, 399, 400, 401, 402, 403, 404, 409, 410, 411, 412, 413, 414, 415, 416, 417, 418, 419, 420, 421, 422, 423, 428, 429, 434, 439, 444, 449, 450, 451, 456, 457, 458, 459, 464, 469, 474, 479, 480, 481, 486, 487, 492, 493, 494, 495, 496, 501, 502, 503, 504, 505, 506, 511, 512, 513, 514, 515, 520, 521, 526, 531, 536, 541, 542, 543, 548, 549, 550, 551, 556, 557, 558, 559, 560, 561, 566, 567, 568, 569, 574, 579, 584, 585, 590, 591, 592, 597, 598, 603, 604, 609, 614, 615, 620, 625, 630, 635, 640, 645, 646, 647, 648, 653, 658, 659, 660, 661]) (by decide +kernel)
set_option maxRecDepth 100000 in
theorem fx_sr : ∀ j ∈ List.range 44, Cond.stringRef (Rn (SR.getD j (0, 0)).1) (SR.getD j (0, 0)).2 (txS.getD j "") ∈ lw_tbl := mem_pos (ps := [301, 625, 962, 1090, 1735, 1757, 1763, 1768, 1773, 1778, 1783, 1784, 1789, 1794, 1795, 1800, 1801, 1802, 1803, 1804, 1805, 1806, 1819, 1820, 1849, 1850, 1851, 1852, 1853, 1854, 1859, 1860, 1861, 1862, 1863, 1864, 1865, 1866, 1867, 1868, 1869, 1874, 1875, 1916]) (by decide +kernel)
def xsK : List Nat := [67, 72, 94, 97, 99, 131, 142, 151]
set_option maxRecDepth 100000 in
theorem fx_xe : ∀ j ∈ List.range 8, Cond.exactly (.string "QuillEngine" (xsK.getD j 0)) "java/lang/String" ∈ FL := mem_pos (ps := [158, 173, 193, 223, 244, 291, 309, 272]) (by decide +kernel)
set_option maxRecDepth 100000 in
theorem fx_xs : ∀ j ∈ List.range 8, Cond.stringRef "QuillEngine" (xsK.getD j 0) (txX.getD j "") ∈ lw_tbl := mem_pos (ps := [1023, 1049, 1067, 1074, 1075, 1387, 1417, 1354]) (by decide +kernel)
set_option maxRecDepth 100000 in
theorem fx_n1 : Cond.not (.castable nIA nIS) ∈ FL := List.mem_of_getElem? (i := 35) (by decide +kernel)
set_option maxRecDepth 100000 in
theorem fx_n2 : Cond.not (.castable nIB nIS) ∈ FL := List.mem_of_getElem? (i := 36) (by decide +kernel)
set_option maxRecDepth 100000 in
theorem fx_cs : Cond.eq (.static RJ0 "COMPACT_STRINGS" "Z") (.int 1) ∈ FL := List.mem_of_getElem? (i := 4) (by decide +kernel)
set_option maxRecDepth 100000 in
theorem fx_sf : Cond.isRef (.static RJ3 "SIOOBE_FORMATTER" "Ljava/util/function/BiFunction;") ∈ FL := List.mem_of_getElem? (i := 5) (by decide +kernel)
set_option maxRecDepth 100000 in
theorem fx_un : Cond.isRef (.static Bundle.tN "UNASSIGNED_STACK" Bundle.steD) ∈ FL := List.mem_of_getElem? (i := 9) (by decide +kernel)
set_option maxRecDepth 100000 in
theorem fx_su : Cond.isRef (.static Bundle.tN "SUPPRESSED_SENTINEL" Bundle.listD) ∈ FL := List.mem_of_getElem? (i := 10) (by decide +kernel)
set_option maxRecDepth 100000 in
theorem ls_cs : Cond.laysStatic RJ0 "COMPACT_STRINGS" "Z" ∈ lw_tbl := List.mem_of_getElem? (i := 311) rfl
set_option maxRecDepth 100000 in
theorem ls_sf : Cond.laysStatic RJ3 "SIOOBE_FORMATTER" "Ljava/util/function/BiFunction;" ∈ lw_tbl := List.mem_of_getElem? (i := 327) rfl
set_option maxRecDepth 100000 in
theorem ls_un : Cond.laysStatic Bundle.tN "UNASSIGNED_STACK" Bundle.steD ∈ lw_tbl := List.mem_of_getElem? (i := 1009) rfl
set_option maxRecDepth 100000 in
theorem ls_su : Cond.laysStatic Bundle.tN "SUPPRESSED_SENTINEL" Bundle.listD ∈ lw_tbl := List.mem_of_getElem? (i := 1011) rfl
set_option maxRecDepth 100000 in
theorem ii_s : Cond.initialized RJ0 ∈ lw_tbl := List.mem_of_getElem? (i := 158) rfl
set_option maxRecDepth 100000 in
theorem ii_p : Cond.initialized RJ3 ∈ lw_tbl := List.mem_of_getElem? (i := 160) rfl
set_option maxRecDepth 100000 in
theorem ii_t : Cond.initialized Bundle.tN ∈ lw_tbl := List.mem_of_getElem? (i := 166) rfl
theorem pr_in {j k : Nat} (hj : j < 44) (hk : k < (sB.getD j []).length) : (j, k) ∈ sPr := List.mem_flatMap.mpr ⟨j, List.mem_range.mpr hj, List.mem_map.mpr ⟨k, List.mem_range.mpr hk, rfl⟩⟩
theorem sBl_31 : ∀ j, j < 44 → (sB.getD j []).length < 2 ^ 31 := by decide +kernel
theorem sr_at {j : Nat} {q : Nat × Nat} (h : SR[j]? = some q) : SR.getD j (0, 0) = q := by rw [List.getD_eq_getElem?_getD, h]; rfl
section GVN
variable {s : State} {args : Array Value} {A : Nat → Prop}
/-- the strings -/
theorem gv_str (hg : ∀ w ∈ FL, w.before args s = true) (hts : ∀ w ∈ lw_tbl, w.before args s = true) (hA : ∀ a : Nat, a < s.heap.size → ¬ A a) : ∃ ad : Nat → Nat × Nat, ∀ j : Nat, j < nS → va_O RJ0 (ad j).1 A s s.heap ∧ va_OF RJ0 "coder" "B" (.int 0) (ad j).1 A s s.heap ∧ va_OF RJ0 "value" "[B" (.ref (ad j).2) (ad j).1 A s s.heap ∧ va_T .byte (ad j).2 (sB.getD j []).length (fun i => .int (Int32.ofInt ((sB.getD j []).getD i 0))) A s s.heap ∧ ∀ q, SR[j]? = some q → ∃ tx, vk_R (Rn q.1) q.2 tx (ad j).1 s := by
  have h0 : ∀ j : Nat, ∃ ad : Nat × Nat, j < nS → va_O RJ0 ad.1 A s s.heap ∧ va_OF RJ0 "coder" "B" (.int 0) ad.1 A s s.heap ∧ va_OF RJ0 "value" "[B" (.ref ad.2) ad.1 A s s.heap ∧ va_T .byte ad.2 (sB.getD j []).length (fun i => .int (Int32.ofInt ((sB.getD j []).getD i 0))) A s s.heap ∧ ∀ q, SR[j]? = some q → ∃ tx, vk_R (Rn q.1) q.2 tx ad.1 s := by
    intro j
    by_cases hj : j < nS
    · have hj : j < 44 := hj
      have hm := List.mem_range.mpr hj
      obtain ⟨a, c, cA, kA, q1, q2, q3, q4, q5, q6, -⟩ := Cond.exactly_spec (args := args) (first := s) (o := none) (s := s) (idx := []) (t := tmS j) (cls := "java/lang/String") (hg _ (fx_ex j hm))
      obtain ⟨t, ht, hT⟩ := va_Tof (f := fun i => .int (Int32.ofInt ((sB.getD j []).getD i 0))) (A := A) (sBl_31 j hj) (hg _ (fx_ar j hm)) (va_eqt (hg _ (fx_le j hm))) (fun k hk => va_eqt (hg _ (fx_el (j, k) (pr_in hj hk)))) hA
      refine ⟨(a, t), fun _ => ⟨⟨cA, q3, q5, by rw [q6]; exact q2, hA a (Array.getElem?_eq_some_iff.mp q3).1⟩, vk_OFof q1 (va_eqt (hg _ (fx_co j hm))) hA, vk_OFof q1 ht hA, hT, fun q hq => ?_⟩⟩
      have e1 := sr_at hq
      have h1 := hts _ (fx_sr j hm)
      unfold tmS at q1
      rw [e1] at h1 q1
      exact ⟨_, vk_R.of h1 q1⟩
    · exact ⟨(0, 0), fun h => absurd h hj⟩
  obtain ⟨ad, had⟩ := Classical.axiomOfChoice h0
  exact ⟨ad, had⟩
theorem gv_K (hts : ∀ w ∈ tw, w.before args s = true) : ∃ (G : va_G) (cA : Nat → ClassId), va_K G vCl (aTys cA) s := by
  have h1 : ∀ c : Nat, ∃ q : ClassId × (Nat → Nat), c < 11 → u_Kn s (Rn c) (TT c) (nN c) q.1 q.2 := by
    intro c
    by_cases hc : c < 11
    · obtain ⟨cC, iS, h⟩ := u_known (C := Rn c) (T := TT c) (N := nN c) (n := nN c) hts (inT hc) (hts _ (tw_of (in_is c (by simp; omega)) rfl))
      exact ⟨(cC, iS), fun _ => h⟩
    · exact ⟨(0, fun _ => 0), fun h => absurd h hc⟩
  have h2 : ∀ k : Nat, ∃ cA : ClassId, k < 4 → ArrOfT s cA (aTy k) ∧ s.vm.findClass ("[" ++ (aTy k).toString) = some cA := by
    intro k
    by_cases hk : k < 4
    · obtain ⟨cA, kA, comp, g1, g2, g3⟩ := Cond.arrayClass_spec (args := args) (first := s) (o := none) (s := s) (idx := []) (hts _ (tw_of (in_at k (by simp; omega)) rfl))
      exact ⟨cA, fun _ => ⟨fun n z => ⟨fun k h => (by cases h), kA, g2, comp, g3⟩, g1⟩⟩
    · exact ⟨0, fun h => absurd h hk⟩
  obtain ⟨g, hg⟩ := Classical.axiomOfChoice h1
  obtain ⟨cA, hc⟩ := Classical.axiomOfChoice h2
  refine ⟨(fun c => (g c).1, fun c => (g c).2), cA, fun c q hq => ?_, fun k q hq => ?_⟩
  · have hc : c < 11 := by
      have := (List.getElem?_eq_some_iff.mp hq).1
      unfold vCl at this
      simpa using this
    rw [vCl_at hc] at hq
    cases hq
    exact hg c hc
  · match k, hq with
    | 0, hq => cases hq; exact hc 0 (by decide)
    | 1, hq => cases hq; exact hc 1 (by decide)
    | 2, hq => cases hq; exact hc 2 (by decide)
    | 3, hq => cases hq; exact hc 3 (by decide)
    | k + 4, hq => cases hq
theorem gv_EV (hg : ∀ w ∈ FL, w.before args s = true) (hts : ∀ w ∈ lw_tbl, w.before args s = true) (hA : ∀ a : Nat, a < s.heap.size → ¬ A a) : ∃ (G : va_G) (cA : Nat → ClassId) (E : EE), EV G cA E A s s.heap := by
  obtain ⟨G, cA, hK⟩ := gv_K (s := s) (args := args) (fun w hw => hts w (List.mem_filter.mp hw).1)
  obtain ⟨ad, had⟩ := gv_str hg hts hA
  have hz := va_Zof (A := A) (hts _ ls_cs) (hts _ ii_s) (va_eqt (hg _ fx_cs)) hA
  rcases va_Zqof (A := A) (hts _ ls_sf) (hts _ ii_p) (hg _ fx_sf) hA with h | ⟨q, h⟩
  · exact ⟨G, cA, (fun j => (ad j).1, fun j => (ad j).2, .null), hK, had, hz, h, Or.inl rfl⟩
  · exact ⟨G, cA, (fun j => (ad j).1, fun j => (ad j).2, .ref q), hK, had, hz, h, Or.inr ⟨q, rfl⟩⟩
theorem gv_XE (hg : ∀ w ∈ FL, w.before args s = true) (hts : ∀ w ∈ lw_tbl, w.before args s = true) (hA : ∀ a : Nat, a < s.heap.size → ¬ A a) : XEv A s s.heap := by
  refine ⟨fun w hw hb => va_any (bad_tab hb) (hts w hw), vx_Zqof (hts _ ls_un) (hts _ ii_t) (hg _ fx_un) hA, vx_Zqof (hts _ ls_su) (hts _ ii_t) (hg _ fx_su) hA, fun k hk => ?_⟩
  have key : ∀ j, j < 8 → ∃ (tx : String) (sa : Nat), vk_R "QuillEngine" (xsK.getD j 0) tx sa s := by
    intro j hj
    have hm := List.mem_range.mpr hj
    obtain ⟨a, c, cA, kA, q1, q2, q3, q4, q5, q6, -⟩ := Cond.exactly_spec (args := args) (first := s) (o := none) (s := s) (idx := []) (t := .string "QuillEngine" (xsK.getD j 0)) (cls := "java/lang/String") (hg _ (fx_xe j hm))
    exact ⟨_, a, vk_R.of (hts _ (fx_xs j hm)) q1⟩
  simp only [List.mem_cons, List.not_mem_nil, or_false] at hk
  rcases hk with rfl | rfl | rfl | rfl | rfl | rfl | rfl | rfl
  · exact key 0 (by decide)
  · exact key 1 (by decide)
  · exact key 2 (by decide)
  · exact key 3 (by decide)
  · exact key 4 (by decide)
  · exact key 5 (by decide)
  · exact key 6 (by decide)
  · exact key 7 (by decide)
theorem gv_NC (hg : ∀ w ∈ FL, w.before args s = true) : NCx s := ⟨va_Nc.of (hg _ fx_n1), va_Nc.of (hg _ fx_n2)⟩
end GVN
