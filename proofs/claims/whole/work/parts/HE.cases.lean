/-! The law's eight cases, each from its first instruction to the loop's end at 490. -/
set_option maxRecDepth 100000 in
theorem cl_41 : Cond.constantLong RL 41 4294967295 ∈ lw_tbl := List.mem_of_getElem? (i := 2066) rfl
set_option maxRecDepth 100000 in
theorem hl_feed : Cond.methodLink RL 43 yL_feed ∈ lw_tbl := List.mem_of_getElem? (i := 974) rfl
set_option maxRecDepth 100000 in
theorem hs_feed : Cond.static yL_feed ∈ lw_tbl := List.mem_of_getElem? (i := 975) rfl
set_option maxRecDepth 100000 in
theorem mr_feed : Cond.methodLink RL 48 (yn 183) ∈ lw_tbl := List.mem_of_getElem? (i := 1697) rfl
theorem tl_feed : TL 151 309 := by unfold TL; decide +kernel
set_option maxRecDepth 100000 in
theorem lc_feed {p : Program} {l : Launch} {e : Env} {s : State} {m : MethodId} {below : List Frame} {meth : Method} {c : Code} {H : Heap} {locs : List Loc} {cells slots : Nat} {Q : State → Prop} {G : va_G} {cA : Nat → ClassId} {E : EE} {A : Nat → Prop} {o : Nat} {ad : Nat → Nat} {ls : Array Slot} {t : Int} {b L i : Nat} {v : Mem} {f : Nat → Int64} {xs : Nat → Int32} (C : LC p l s m c b L xs G cA E A) (hI : LI s G cA E A o ad b (nI i) t v f H locs ls) (hi : i + 3 < L) (hL : L ≤ 2048) (hc : cells + 1 ≤ 601024) (hs : slots + 6 ≤ 7293034) (kk : ∀ (t : Int) (v : Mem) (f : Nat → Int64) (H : Heap) (locs : List Loc) (ls : Array Slot), LI s G cA E A o ad b (nI i) t v f H locs ls → W p l e room_1 s m #[Value.ref b] below meth c H locs (cells + 1) (slots + 6) Q (F0 m 490 ls [])) : W p l e room_1 s m #[Value.ref b] below meth c H locs cells slots Q (F0 m 84 ls []) := by
  obtain ⟨hx, hb, hml, hown, hts, hX, hbl, hbA, hEV, hXE, hNC, hA, hl0⟩ := id C
  obtain ⟨hw, hV, hS, hl⟩ := hI
  have in1 : vp_in (nI i + 1) L := by rw [show nI i + 1 = nI (i + 1) from nI_add i 1]; exact vp_in_nI (by omega) (by omega)
  have in2 : vp_in (nI i + 2) L := by rw [show nI i + 2 = nI (i + 2) from nI_add i 2]; exact vp_in_nI (by omega) (by omega)
  have in3 : vp_in (nI i + 3) L := by rw [show nI i + 3 = nI (i + 3) from nI_add i 3]; exact vp_in_nI (by omega) (by omega)
  refine lv_aload_n hx hb (by decide +kernel : decode code 84 = .ok (.aload_n 1, 1)) rfl (lv_at hl 1 rfl) ?_
  refine lv_aload_n hx hb (by decide +kernel : decode code 85 = .ok (.aload_n 0, 1)) rfl (lv_at hl 0 rfl) ?_
  refine lv_iload hx hb (by decide +kernel : decode code 86 = .ok (.iload 4, 2)) (lv_at hl 4 rfl) ?_
  refine lv_iconst (v := 1) hx hb (by decide +kernel : decode code 88 = .ok (.iconst 1, 1)) (by decide) ?_
  refine lv_iadd hx hb (by decide +kernel : decode code 89 = .ok (.iadd, 1)) ?_
  refine va_sld (i := nI i + 1) hx hb hX hbl hbA hS in1 (by decide +kernel : decode code 90 = .ok (.iaload, 1)) ?_
  refine lv_i2l hx hb (by decide +kernel : decode code 91 = .ok (.i2l, 1)) rfl ?_
  refine lv_bipush (v := 32) hx hb (by decide +kernel : decode code 92 = .ok (.bipush 32, 2)) (by decide) ?_
  refine lv_lshl hx hb (by decide +kernel : decode code 94 = .ok (.lshl, 1)) rfl ?_
  refine lv_aload_n hx hb (by decide +kernel : decode code 95 = .ok (.aload_n 0, 1)) rfl (lv_at hl 0 rfl) ?_
  refine lv_iload hx hb (by decide +kernel : decode code 96 = .ok (.iload 4, 2)) (lv_at hl 4 rfl) ?_
  refine lv_iconst (v := 2) hx hb (by decide +kernel : decode code 98 = .ok (.iconst 2, 1)) (by decide) ?_
  refine lv_iadd hx hb (by decide +kernel : decode code 99 = .ok (.iadd, 1)) ?_
  refine va_sld (i := nI i + 2) hx hb hX hbl hbA hS in2 (by decide +kernel : decode code 100 = .ok (.iaload, 1)) ?_
  refine lv_i2l hx hb (by decide +kernel : decode code 101 = .ok (.i2l, 1)) rfl ?_
  refine lv_ldc2 hx hb hown (hts _ (tw_of cl_41 rfl)) (by decide +kernel : decode code 102 = .ok (.ldc2_w 41, 3)) ?_
  refine lv_land hx hb (by decide +kernel : decode code 105 = .ok (.land, 1)) ?_
  refine lv_lor hx hb (by decide +kernel : decode code 106 = .ok (.lor, 1)) ?_
  refine lv_topl (fun y0 ey0 => ?_)
  obtain ⟨a0, r0, z0⟩ := i64_of y0
  subst z0
  refine lv_aload_n hx hb (by decide +kernel : decode code 107 = .ok (.aload_n 0, 1)) rfl (lv_at hl 0 rfl) ?_
  refine lv_iload hx hb (by decide +kernel : decode code 108 = .ok (.iload 4, 2)) (lv_at hl 4 rfl) ?_
  refine lv_iconst (v := 3) hx hb (by decide +kernel : decode code 110 = .ok (.iconst 3, 1)) (by decide) ?_
  refine lv_iadd hx hb (by decide +kernel : decode code 111 = .ok (.iadd, 1)) ?_
  refine va_sld (i := nI i + 3) hx hb hX hbl hbA hS in3 (by decide +kernel : decode code 112 = .ok (.iaload, 1)) ?_
  refine lv_topi (fun y3 ey3 => ?_)
  obtain ⟨a3, r3, z3⟩ := i32_of y3
  subst z3
  refine lv_aload_n hx hb (by decide +kernel : decode code 113 = .ok (.aload_n 3, 1)) rfl (lv_at hl 3 rfl) ?_
  rcases of_feed (l := l) (G := G) (cA := cA) (E := E) (B0 := B1 A o) (ad := ad) hl0 hV hw.2.2 r0 r3 with hM | ⟨hM, hR2⟩
  · refine W.widen (k := cells + 1) (n := slots + 6) (Nat.le_succ _) (Nat.le_add_right _ _) ?_
    refine hp_ret (t9 := t) C hS hw (hr_feed hM) cw_feed hl_feed hs_feed rfl (by decide +kernel : (parseMethodDescriptor yL_feed.desc).map (fun d => d.parameters.length) = some 4) (by decide) rfl hl.1 (by decide +kernel : decode code 114 = .ok (.invokestatic 43, 3)) hc hs rfl (fun x1 v1 f1 H1 locs1 hP1 hrg1 hf1 hw1 hS1 => ?_)
    refine lv_istore (lv' := (5, .int 0) :: lvL b ad o (nI i)) hx hb (by decide +kernel : decode code 117 = .ok (.istore 5, 2)) hl (by decide) rfl (fun ls hl => ?_)
    refine lv_aload_n hx hb (by decide +kernel : decode code 119 = .ok (.aload_n 2, 1)) rfl (lv_at hl 3 rfl) ?_
    refine lv_aload_n hx hb (by decide +kernel : decode code 120 = .ok (.aload_n 0, 1)) rfl (lv_at hl 1 rfl) ?_
    refine lv_iload hx hb (by decide +kernel : decode code 121 = .ok (.iload 4, 2)) (lv_at hl 5 rfl) ?_
    refine lv_iconst (v := 1) hx hb (by decide +kernel : decode code 123 = .ok (.iconst 1, 1)) (by decide) ?_
    refine lv_iadd hx hb (by decide +kernel : decode code 124 = .ok (.iadd, 1)) ?_
    refine va_sld (i := nI i + 1) hx hb hX hbl hbA hS1 in1 (by decide +kernel : decode code 125 = .ok (.iaload, 1)) ?_
    refine lv_i2l hx hb (by decide +kernel : decode code 126 = .ok (.i2l, 1)) rfl ?_
    refine lv_bipush (v := 32) hx hb (by decide +kernel : decode code 127 = .ok (.bipush 32, 2)) (by decide) ?_
    refine lv_lshl hx hb (by decide +kernel : decode code 129 = .ok (.lshl, 1)) rfl ?_
    refine lv_aload_n hx hb (by decide +kernel : decode code 130 = .ok (.aload_n 0, 1)) rfl (lv_at hl 1 rfl) ?_
    refine lv_iload hx hb (by decide +kernel : decode code 131 = .ok (.iload 4, 2)) (lv_at hl 5 rfl) ?_
    refine lv_iconst (v := 2) hx hb (by decide +kernel : decode code 133 = .ok (.iconst 2, 1)) (by decide) ?_
    refine lv_iadd hx hb (by decide +kernel : decode code 134 = .ok (.iadd, 1)) ?_
    refine va_sld (i := nI i + 2) hx hb hX hbl hbA hS1 in2 (by decide +kernel : decode code 135 = .ok (.iaload, 1)) ?_
    refine lv_i2l hx hb (by decide +kernel : decode code 136 = .ok (.i2l, 1)) rfl ?_
    refine lv_ldc2 hx hb hown (hts _ (tw_of cl_41 rfl)) (by decide +kernel : decode code 137 = .ok (.ldc2_w 41, 3)) ?_
    refine lv_land hx hb (by decide +kernel : decode code 140 = .ok (.land, 1)) ?_
    refine lv_lor hx hb (by decide +kernel : decode code 141 = .ok (.lor, 1)) ?_
    refine lv_topl (fun w0 ew0 => ?_)
    have z0 : w0 = Int64.ofInt a0 := ew0.trans ey0.symm
    subst z0
    refine lv_aload_n hx hb (by decide +kernel : decode code 142 = .ok (.aload_n 0, 1)) rfl (lv_at hl 1 rfl) ?_
    refine lv_iload hx hb (by decide +kernel : decode code 143 = .ok (.iload 4, 2)) (lv_at hl 5 rfl) ?_
    refine lv_iconst (v := 3) hx hb (by decide +kernel : decode code 145 = .ok (.iconst 3, 1)) (by decide) ?_
    refine lv_iadd hx hb (by decide +kernel : decode code 146 = .ok (.iadd, 1)) ?_
    refine va_sld (i := nI i + 3) hx hb hX hbl hbA hS1 in3 (by decide +kernel : decode code 147 = .ok (.iaload, 1)) ?_
    refine lv_topi (fun w3 ew3 => ?_)
    have z3 : w3 = Int32.ofInt a3 := ew3.trans ey3.symm
    subst z3
    refine call_ret (own := RL) (y := 183) (r := 38) (as := [(1, a0), (0, a3)]) (rest := []) (d := 1475) ⟨hx, hb, hml, hown, hts⟩ hEV hA hS1 hw1 (of_ref hP1 rfl hw1.2.2 (by decide) (oa_c (oa_j r0) (oa_c (oa_i r3) oa_n))) (by unfold OKY; decide +kernel) mr_feed rfl (by decide) hl.1 (by decide +kernel : decode code 148 = .ok (.invokevirtual 48, 3)) (Nat.le_of_ble_eq_true rfl) (Nat.le_of_ble_eq_true rfl) hc hs rfl (fun x2 v2 H2 locs2 hP2 hrg2 hw2 hS2 => ?_)
    obtain ⟨e1, e2, hV2⟩ := hP2
    refine lw_tail (q := 151) (off := 309) tl_feed C hS2 hw2 hV2 (by rw [e2]; rfl) (fun _ => by rw [e1]; exact hf1) hl hc hs (fun H3 locs3 ls3 hI3 => kk t v2 f1 H3 locs3 ls3 hI3)
  · refine hp_thr C hS hw (ht_feed_1 (t9 := t) hM) cw_feed hl_feed hs_feed rfl (by decide +kernel : (parseMethodDescriptor yL_feed.desc).map (fun d => d.parameters.length) = some 4) (by decide) rfl hl.1 (by decide +kernel : decode code 114 = .ok (.invokestatic 43, 3)) hc hs rfl (fun H1 locs1 hw1 hS1 => ?_)
    refine lv_istore (lv' := (5, .int 1) :: lvL b ad o (nI i)) hx hb (by decide +kernel : decode code 117 = .ok (.istore 5, 2)) hl (by decide) rfl (fun ls hl => ?_)
    refine lv_aload_n hx hb (by decide +kernel : decode code 119 = .ok (.aload_n 2, 1)) rfl (lv_at hl 3 rfl) ?_
    refine lv_aload_n hx hb (by decide +kernel : decode code 120 = .ok (.aload_n 0, 1)) rfl (lv_at hl 1 rfl) ?_
    refine lv_iload hx hb (by decide +kernel : decode code 121 = .ok (.iload 4, 2)) (lv_at hl 5 rfl) ?_
    refine lv_iconst (v := 1) hx hb (by decide +kernel : decode code 123 = .ok (.iconst 1, 1)) (by decide) ?_
    refine lv_iadd hx hb (by decide +kernel : decode code 124 = .ok (.iadd, 1)) ?_
    refine va_sld (i := nI i + 1) hx hb hX hbl hbA hS1 in1 (by decide +kernel : decode code 125 = .ok (.iaload, 1)) ?_
    refine lv_i2l hx hb (by decide +kernel : decode code 126 = .ok (.i2l, 1)) rfl ?_
    refine lv_bipush (v := 32) hx hb (by decide +kernel : decode code 127 = .ok (.bipush 32, 2)) (by decide) ?_
    refine lv_lshl hx hb (by decide +kernel : decode code 129 = .ok (.lshl, 1)) rfl ?_
    refine lv_aload_n hx hb (by decide +kernel : decode code 130 = .ok (.aload_n 0, 1)) rfl (lv_at hl 1 rfl) ?_
    refine lv_iload hx hb (by decide +kernel : decode code 131 = .ok (.iload 4, 2)) (lv_at hl 5 rfl) ?_
    refine lv_iconst (v := 2) hx hb (by decide +kernel : decode code 133 = .ok (.iconst 2, 1)) (by decide) ?_
    refine lv_iadd hx hb (by decide +kernel : decode code 134 = .ok (.iadd, 1)) ?_
    refine va_sld (i := nI i + 2) hx hb hX hbl hbA hS1 in2 (by decide +kernel : decode code 135 = .ok (.iaload, 1)) ?_
    refine lv_i2l hx hb (by decide +kernel : decode code 136 = .ok (.i2l, 1)) rfl ?_
    refine lv_ldc2 hx hb hown (hts _ (tw_of cl_41 rfl)) (by decide +kernel : decode code 137 = .ok (.ldc2_w 41, 3)) ?_
    refine lv_land hx hb (by decide +kernel : decode code 140 = .ok (.land, 1)) ?_
    refine lv_lor hx hb (by decide +kernel : decode code 141 = .ok (.lor, 1)) ?_
    refine lv_topl (fun w0 ew0 => ?_)
    have z0 : w0 = Int64.ofInt a0 := ew0.trans ey0.symm
    subst z0
    refine lv_aload_n hx hb (by decide +kernel : decode code 142 = .ok (.aload_n 0, 1)) rfl (lv_at hl 1 rfl) ?_
    refine lv_iload hx hb (by decide +kernel : decode code 143 = .ok (.iload 4, 2)) (lv_at hl 5 rfl) ?_
    refine lv_iconst (v := 3) hx hb (by decide +kernel : decode code 145 = .ok (.iconst 3, 1)) (by decide) ?_
    refine lv_iadd hx hb (by decide +kernel : decode code 146 = .ok (.iadd, 1)) ?_
    refine va_sld (i := nI i + 3) hx hb hX hbl hbA hS1 in3 (by decide +kernel : decode code 147 = .ok (.iaload, 1)) ?_
    refine lv_topi (fun w3 ew3 => ?_)
    have z3 : w3 = Int32.ofInt a3 := ew3.trans ey3.symm
    subst z3
    refine call_ret (own := RL) (y := 183) (r := 38) (as := [(1, a0), (0, a3)]) (rest := []) (d := 1475) ⟨hx, hb, hml, hown, hts⟩ hEV hA hS1 hw1 (of_ref hR2 rfl hw1.2.2 (by decide) (oa_c (oa_j r0) (oa_c (oa_i r3) oa_n))) (by unfold OKY; decide +kernel) mr_feed rfl (by decide) hl.1 (by decide +kernel : decode code 148 = .ok (.invokevirtual 48, 3)) (Nat.le_of_ble_eq_true rfl) (Nat.le_of_ble_eq_true rfl) hc hs rfl (fun x2 v2 H2 locs2 hP2 hrg2 hw2 hS2 => ?_)
    obtain ⟨e2, hV2⟩ := hP2
    refine lw_tail (q := 151) (off := 309) tl_feed C hS2 hw2 hV2 (by rw [e2]; rfl) (fun q => absurd q (by decide)) hl hc hs (fun H3 locs3 ls3 hI3 => kk t v2 f H3 locs3 ls3 hI3)
set_option maxRecDepth 100000 in
theorem hl_run : Cond.methodLink RL 60 yL_run ∈ lw_tbl := List.mem_of_getElem? (i := 1050) rfl
set_option maxRecDepth 100000 in
theorem hs_run : Cond.static yL_run ∈ lw_tbl := List.mem_of_getElem? (i := 1051) rfl
set_option maxRecDepth 100000 in
theorem mr_run : Cond.methodLink RL 63 (yn 256) ∈ lw_tbl := List.mem_of_getElem? (i := 1937) rfl
theorem tl_run : TL 245 215 := by unfold TL; decide +kernel
set_option maxRecDepth 100000 in
theorem lc_run {p : Program} {l : Launch} {e : Env} {s : State} {m : MethodId} {below : List Frame} {meth : Method} {c : Code} {H : Heap} {locs : List Loc} {cells slots : Nat} {Q : State → Prop} {G : va_G} {cA : Nat → ClassId} {E : EE} {A : Nat → Prop} {o : Nat} {ad : Nat → Nat} {ls : Array Slot} {t : Int} {b L i : Nat} {v : Mem} {f : Nat → Int64} {xs : Nat → Int32} (C : LC p l s m c b L xs G cA E A) (hI : LI s G cA E A o ad b (nI i) t v f H locs ls) (hi : i + 3 < L) (hL : L ≤ 2048) (hc : cells + 1 ≤ 601024) (hs : slots + 6 ≤ 7293034) (kk : ∀ (t : Int) (v : Mem) (f : Nat → Int64) (H : Heap) (locs : List Loc) (ls : Array Slot), LI s G cA E A o ad b (nI i) t v f H locs ls → W p l e room_1 s m #[Value.ref b] below meth c H locs (cells + 1) (slots + 6) Q (F0 m 490 ls [])) : W p l e room_1 s m #[Value.ref b] below meth c H locs cells slots Q (F0 m 210 ls []) := by
  obtain ⟨hx, hb, hml, hown, hts, hX, hbl, hbA, hEV, hXE, hNC, hA, hl0⟩ := id C
  obtain ⟨hw, hV, hS, hl⟩ := hI
  have in1 : vp_in (nI i + 1) L := by rw [show nI i + 1 = nI (i + 1) from nI_add i 1]; exact vp_in_nI (by omega) (by omega)
  have in2 : vp_in (nI i + 2) L := by rw [show nI i + 2 = nI (i + 2) from nI_add i 2]; exact vp_in_nI (by omega) (by omega)
  have in3 : vp_in (nI i + 3) L := by rw [show nI i + 3 = nI (i + 3) from nI_add i 3]; exact vp_in_nI (by omega) (by omega)
  refine lv_aload_n hx hb (by decide +kernel : decode code 210 = .ok (.aload_n 1, 1)) rfl (lv_at hl 1 rfl) ?_
  refine lv_aload_n hx hb (by decide +kernel : decode code 211 = .ok (.aload_n 0, 1)) rfl (lv_at hl 0 rfl) ?_
  refine lv_iload hx hb (by decide +kernel : decode code 212 = .ok (.iload 4, 2)) (lv_at hl 4 rfl) ?_
  refine lv_iconst (v := 1) hx hb (by decide +kernel : decode code 214 = .ok (.iconst 1, 1)) (by decide) ?_
  refine lv_iadd hx hb (by decide +kernel : decode code 215 = .ok (.iadd, 1)) ?_
  refine va_sld (i := nI i + 1) hx hb hX hbl hbA hS in1 (by decide +kernel : decode code 216 = .ok (.iaload, 1)) ?_
  refine lv_topi (fun y1 ey1 => ?_)
  obtain ⟨a1, r1, z1⟩ := i32_of y1
  subst z1
  refine lv_aload_n hx hb (by decide +kernel : decode code 217 = .ok (.aload_n 0, 1)) rfl (lv_at hl 0 rfl) ?_
  refine lv_iload hx hb (by decide +kernel : decode code 218 = .ok (.iload 4, 2)) (lv_at hl 4 rfl) ?_
  refine lv_iconst (v := 2) hx hb (by decide +kernel : decode code 220 = .ok (.iconst 2, 1)) (by decide) ?_
  refine lv_iadd hx hb (by decide +kernel : decode code 221 = .ok (.iadd, 1)) ?_
  refine va_sld (i := nI i + 2) hx hb hX hbl hbA hS in2 (by decide +kernel : decode code 222 = .ok (.iaload, 1)) ?_
  refine lv_topi (fun y2 ey2 => ?_)
  obtain ⟨a2, r2, z2⟩ := i32_of y2
  subst z2
  refine lv_aload_n hx hb (by decide +kernel : decode code 223 = .ok (.aload_n 3, 1)) rfl (lv_at hl 3 rfl) ?_
  rcases of_run (l := l) (G := G) (cA := cA) (E := E) (B0 := B1 A o) (ad := ad) hl0 hV hw.2.2 r1 r2 with (hM | ⟨hM, hR2⟩) | ⟨hM, hR2⟩
  · refine W.widen (k := cells + 1) (n := slots + 6) (Nat.le_succ _) (Nat.le_add_right _ _) ?_
    refine hp_ret (t9 := t) C hS hw (hr_run hM) cw_run hl_run hs_run rfl (by decide +kernel : (parseMethodDescriptor yL_run.desc).map (fun d => d.parameters.length) = some 4) (by decide) rfl hl.1 (by decide +kernel : decode code 224 = .ok (.invokestatic 60, 3)) hc hs rfl (fun x1 v1 f1 H1 locs1 hP1 hrg1 hf1 hw1 hS1 => ?_)
    refine lv_istore (lv' := (5, .int 0) :: lvL b ad o (nI i)) hx hb (by decide +kernel : decode code 227 = .ok (.istore 5, 2)) hl (by decide) rfl (fun ls hl => ?_)
    refine lv_aload_n hx hb (by decide +kernel : decode code 229 = .ok (.aload_n 2, 1)) rfl (lv_at hl 3 rfl) ?_
    refine lv_aload_n hx hb (by decide +kernel : decode code 230 = .ok (.aload_n 0, 1)) rfl (lv_at hl 1 rfl) ?_
    refine lv_iload hx hb (by decide +kernel : decode code 231 = .ok (.iload 4, 2)) (lv_at hl 5 rfl) ?_
    refine lv_iconst (v := 1) hx hb (by decide +kernel : decode code 233 = .ok (.iconst 1, 1)) (by decide) ?_
    refine lv_iadd hx hb (by decide +kernel : decode code 234 = .ok (.iadd, 1)) ?_
    refine va_sld (i := nI i + 1) hx hb hX hbl hbA hS1 in1 (by decide +kernel : decode code 235 = .ok (.iaload, 1)) ?_
    refine lv_topi (fun w1 ew1 => ?_)
    have z1 : w1 = Int32.ofInt a1 := ew1.trans ey1.symm
    subst z1
    refine lv_aload_n hx hb (by decide +kernel : decode code 236 = .ok (.aload_n 0, 1)) rfl (lv_at hl 1 rfl) ?_
    refine lv_iload hx hb (by decide +kernel : decode code 237 = .ok (.iload 4, 2)) (lv_at hl 5 rfl) ?_
    refine lv_iconst (v := 2) hx hb (by decide +kernel : decode code 239 = .ok (.iconst 2, 1)) (by decide) ?_
    refine lv_iadd hx hb (by decide +kernel : decode code 240 = .ok (.iadd, 1)) ?_
    refine va_sld (i := nI i + 2) hx hb hX hbl hbA hS1 in2 (by decide +kernel : decode code 241 = .ok (.iaload, 1)) ?_
    refine lv_topi (fun w2 ew2 => ?_)
    have z2 : w2 = Int32.ofInt a2 := ew2.trans ey2.symm
    subst z2
    refine call_ret (own := RL) (y := 256) (r := 38) (as := [(0, a1), (0, a2)]) (rest := []) (d := 1475) ⟨hx, hb, hml, hown, hts⟩ hEV hA hS1 hw1 (of_ref hP1 rfl hw1.2.2 (by decide) (oa_c (oa_i r1) (oa_c (oa_i r2) oa_n))) (by unfold OKY; decide +kernel) mr_run rfl (by decide) hl.1 (by decide +kernel : decode code 242 = .ok (.invokevirtual 63, 3)) (Nat.le_of_ble_eq_true rfl) (Nat.le_of_ble_eq_true rfl) hc hs rfl (fun x2 v2 H2 locs2 hP2 hrg2 hw2 hS2 => ?_)
    obtain ⟨e1, e2, hV2⟩ := hP2
    refine lw_tail (q := 245) (off := 215) tl_run C hS2 hw2 hV2 (by rw [e2]; rfl) (fun _ => by rw [e1]; exact hf1) hl hc hs (fun H3 locs3 ls3 hI3 => kk t v2 f1 H3 locs3 ls3 hI3)
  · refine hp_thr C hS hw (ht_run_1 (t9 := t) hM) cw_run hl_run hs_run rfl (by decide +kernel : (parseMethodDescriptor yL_run.desc).map (fun d => d.parameters.length) = some 4) (by decide) rfl hl.1 (by decide +kernel : decode code 224 = .ok (.invokestatic 60, 3)) hc hs rfl (fun H1 locs1 hw1 hS1 => ?_)
    refine lv_istore (lv' := (5, .int 1) :: lvL b ad o (nI i)) hx hb (by decide +kernel : decode code 227 = .ok (.istore 5, 2)) hl (by decide) rfl (fun ls hl => ?_)
    refine lv_aload_n hx hb (by decide +kernel : decode code 229 = .ok (.aload_n 2, 1)) rfl (lv_at hl 3 rfl) ?_
    refine lv_aload_n hx hb (by decide +kernel : decode code 230 = .ok (.aload_n 0, 1)) rfl (lv_at hl 1 rfl) ?_
    refine lv_iload hx hb (by decide +kernel : decode code 231 = .ok (.iload 4, 2)) (lv_at hl 5 rfl) ?_
    refine lv_iconst (v := 1) hx hb (by decide +kernel : decode code 233 = .ok (.iconst 1, 1)) (by decide) ?_
    refine lv_iadd hx hb (by decide +kernel : decode code 234 = .ok (.iadd, 1)) ?_
    refine va_sld (i := nI i + 1) hx hb hX hbl hbA hS1 in1 (by decide +kernel : decode code 235 = .ok (.iaload, 1)) ?_
    refine lv_topi (fun w1 ew1 => ?_)
    have z1 : w1 = Int32.ofInt a1 := ew1.trans ey1.symm
    subst z1
    refine lv_aload_n hx hb (by decide +kernel : decode code 236 = .ok (.aload_n 0, 1)) rfl (lv_at hl 1 rfl) ?_
    refine lv_iload hx hb (by decide +kernel : decode code 237 = .ok (.iload 4, 2)) (lv_at hl 5 rfl) ?_
    refine lv_iconst (v := 2) hx hb (by decide +kernel : decode code 239 = .ok (.iconst 2, 1)) (by decide) ?_
    refine lv_iadd hx hb (by decide +kernel : decode code 240 = .ok (.iadd, 1)) ?_
    refine va_sld (i := nI i + 2) hx hb hX hbl hbA hS1 in2 (by decide +kernel : decode code 241 = .ok (.iaload, 1)) ?_
    refine lv_topi (fun w2 ew2 => ?_)
    have z2 : w2 = Int32.ofInt a2 := ew2.trans ey2.symm
    subst z2
    refine call_ret (own := RL) (y := 256) (r := 38) (as := [(0, a1), (0, a2)]) (rest := []) (d := 1475) ⟨hx, hb, hml, hown, hts⟩ hEV hA hS1 hw1 (of_ref hR2 rfl hw1.2.2 (by decide) (oa_c (oa_i r1) (oa_c (oa_i r2) oa_n))) (by unfold OKY; decide +kernel) mr_run rfl (by decide) hl.1 (by decide +kernel : decode code 242 = .ok (.invokevirtual 63, 3)) (Nat.le_of_ble_eq_true rfl) (Nat.le_of_ble_eq_true rfl) hc hs rfl (fun x2 v2 H2 locs2 hP2 hrg2 hw2 hS2 => ?_)
    obtain ⟨e2, hV2⟩ := hP2
    refine lw_tail (q := 245) (off := 215) tl_run C hS2 hw2 hV2 (by rw [e2]; rfl) (fun q => absurd q (by decide)) hl hc hs (fun H3 locs3 ls3 hI3 => kk t v2 f H3 locs3 ls3 hI3)
  · refine hp_thr C hS hw (ht_run_2 (t9 := t) hM) cw_run hl_run hs_run rfl (by decide +kernel : (parseMethodDescriptor yL_run.desc).map (fun d => d.parameters.length) = some 4) (by decide) rfl hl.1 (by decide +kernel : decode code 224 = .ok (.invokestatic 60, 3)) hc hs rfl (fun H1 locs1 hw1 hS1 => ?_)
    refine lv_istore (lv' := (5, .int 2) :: lvL b ad o (nI i)) hx hb (by decide +kernel : decode code 227 = .ok (.istore 5, 2)) hl (by decide) rfl (fun ls hl => ?_)
    refine lv_aload_n hx hb (by decide +kernel : decode code 229 = .ok (.aload_n 2, 1)) rfl (lv_at hl 3 rfl) ?_
    refine lv_aload_n hx hb (by decide +kernel : decode code 230 = .ok (.aload_n 0, 1)) rfl (lv_at hl 1 rfl) ?_
    refine lv_iload hx hb (by decide +kernel : decode code 231 = .ok (.iload 4, 2)) (lv_at hl 5 rfl) ?_
    refine lv_iconst (v := 1) hx hb (by decide +kernel : decode code 233 = .ok (.iconst 1, 1)) (by decide) ?_
    refine lv_iadd hx hb (by decide +kernel : decode code 234 = .ok (.iadd, 1)) ?_
    refine va_sld (i := nI i + 1) hx hb hX hbl hbA hS1 in1 (by decide +kernel : decode code 235 = .ok (.iaload, 1)) ?_
    refine lv_topi (fun w1 ew1 => ?_)
    have z1 : w1 = Int32.ofInt a1 := ew1.trans ey1.symm
    subst z1
    refine lv_aload_n hx hb (by decide +kernel : decode code 236 = .ok (.aload_n 0, 1)) rfl (lv_at hl 1 rfl) ?_
    refine lv_iload hx hb (by decide +kernel : decode code 237 = .ok (.iload 4, 2)) (lv_at hl 5 rfl) ?_
    refine lv_iconst (v := 2) hx hb (by decide +kernel : decode code 239 = .ok (.iconst 2, 1)) (by decide) ?_
    refine lv_iadd hx hb (by decide +kernel : decode code 240 = .ok (.iadd, 1)) ?_
    refine va_sld (i := nI i + 2) hx hb hX hbl hbA hS1 in2 (by decide +kernel : decode code 241 = .ok (.iaload, 1)) ?_
    refine lv_topi (fun w2 ew2 => ?_)
    have z2 : w2 = Int32.ofInt a2 := ew2.trans ey2.symm
    subst z2
    refine call_ret (own := RL) (y := 256) (r := 38) (as := [(0, a1), (0, a2)]) (rest := []) (d := 1475) ⟨hx, hb, hml, hown, hts⟩ hEV hA hS1 hw1 (of_ref hR2 rfl hw1.2.2 (by decide) (oa_c (oa_i r1) (oa_c (oa_i r2) oa_n))) (by unfold OKY; decide +kernel) mr_run rfl (by decide) hl.1 (by decide +kernel : decode code 242 = .ok (.invokevirtual 63, 3)) (Nat.le_of_ble_eq_true rfl) (Nat.le_of_ble_eq_true rfl) hc hs rfl (fun x2 v2 H2 locs2 hP2 hrg2 hw2 hS2 => ?_)
    obtain ⟨e2, hV2⟩ := hP2
    refine lw_tail (q := 245) (off := 215) tl_run C hS2 hw2 hV2 (by rw [e2]; rfl) (fun q => absurd q (by decide)) hl hc hs (fun H3 locs3 ls3 hI3 => kk t v2 f H3 locs3 ls3 hI3)
set_option maxRecDepth 100000 in
theorem hl_told : Cond.methodLink RL 64 yL_told ∈ lw_tbl := List.mem_of_getElem? (i := 1343) rfl
set_option maxRecDepth 100000 in
theorem hs_told : Cond.static yL_told ∈ lw_tbl := List.mem_of_getElem? (i := 1344) rfl
set_option maxRecDepth 100000 in
theorem mr_told : Cond.methodLink RL 67 (yn 257) ∈ lw_tbl := List.mem_of_getElem? (i := 2046) rfl
theorem tl_told : TL 301 159 := by unfold TL; decide +kernel
set_option maxRecDepth 100000 in
theorem lc_told {p : Program} {l : Launch} {e : Env} {s : State} {m : MethodId} {below : List Frame} {meth : Method} {c : Code} {H : Heap} {locs : List Loc} {cells slots : Nat} {Q : State → Prop} {G : va_G} {cA : Nat → ClassId} {E : EE} {A : Nat → Prop} {o : Nat} {ad : Nat → Nat} {ls : Array Slot} {t : Int} {b L i : Nat} {v : Mem} {f : Nat → Int64} {xs : Nat → Int32} (C : LC p l s m c b L xs G cA E A) (hI : LI s G cA E A o ad b (nI i) t v f H locs ls) (hi : i + 3 < L) (hL : L ≤ 2048) (hc : cells + 1 ≤ 601024) (hs : slots + 6 ≤ 7293034) (kk : ∀ (t : Int) (v : Mem) (f : Nat → Int64) (H : Heap) (locs : List Loc) (ls : Array Slot), LI s G cA E A o ad b (nI i) t v f H locs ls → W p l e room_1 s m #[Value.ref b] below meth c H locs (cells + 1) (slots + 6) Q (F0 m 490 ls [])) : W p l e room_1 s m #[Value.ref b] below meth c H locs cells slots Q (F0 m 278 ls []) := by
  obtain ⟨hx, hb, hml, hown, hts, hX, hbl, hbA, hEV, hXE, hNC, hA, hl0⟩ := id C
  obtain ⟨hw, hV, hS, hl⟩ := hI
  have in1 : vp_in (nI i + 1) L := by rw [show nI i + 1 = nI (i + 1) from nI_add i 1]; exact vp_in_nI (by omega) (by omega)
  have in2 : vp_in (nI i + 2) L := by rw [show nI i + 2 = nI (i + 2) from nI_add i 2]; exact vp_in_nI (by omega) (by omega)
  have in3 : vp_in (nI i + 3) L := by rw [show nI i + 3 = nI (i + 3) from nI_add i 3]; exact vp_in_nI (by omega) (by omega)
  refine lv_aload_n hx hb (by decide +kernel : decode code 278 = .ok (.aload_n 1, 1)) rfl (lv_at hl 1 rfl) ?_
  refine lv_aload_n hx hb (by decide +kernel : decode code 279 = .ok (.aload_n 0, 1)) rfl (lv_at hl 0 rfl) ?_
  refine lv_iload hx hb (by decide +kernel : decode code 280 = .ok (.iload 4, 2)) (lv_at hl 4 rfl) ?_
  refine lv_iconst (v := 1) hx hb (by decide +kernel : decode code 282 = .ok (.iconst 1, 1)) (by decide) ?_
  refine lv_iadd hx hb (by decide +kernel : decode code 283 = .ok (.iadd, 1)) ?_
  refine va_sld (i := nI i + 1) hx hb hX hbl hbA hS in1 (by decide +kernel : decode code 284 = .ok (.iaload, 1)) ?_
  refine lv_topi (fun y1 ey1 => ?_)
  obtain ⟨a1, r1, z1⟩ := i32_of y1
  subst z1
  refine lv_aload_n hx hb (by decide +kernel : decode code 285 = .ok (.aload_n 3, 1)) rfl (lv_at hl 3 rfl) ?_
  rcases of_told (l := l) (G := G) (cA := cA) (E := E) (B0 := B1 A o) (ad := ad) hl0 hV hw.2.2 r1 with (hM | ⟨hM, hR2⟩) | ⟨hM, hR2⟩
  · refine W.widen (k := cells + 1) (n := slots + 6) (Nat.le_succ _) (Nat.le_add_right _ _) ?_
    refine hp_ret (t9 := t) C hS hw (hr_told hM) cw_told hl_told hs_told rfl (by decide +kernel : (parseMethodDescriptor yL_told.desc).map (fun d => d.parameters.length) = some 3) (by decide) rfl hl.1 (by decide +kernel : decode code 286 = .ok (.invokestatic 64, 3)) hc hs rfl (fun x1 v1 f1 H1 locs1 hP1 hrg1 hf1 hw1 hS1 => ?_)
    refine lv_istore (lv' := (5, .int 0) :: lvL b ad o (nI i)) hx hb (by decide +kernel : decode code 289 = .ok (.istore 5, 2)) hl (by decide) rfl (fun ls hl => ?_)
    refine lv_aload_n hx hb (by decide +kernel : decode code 291 = .ok (.aload_n 2, 1)) rfl (lv_at hl 3 rfl) ?_
    refine lv_aload_n hx hb (by decide +kernel : decode code 292 = .ok (.aload_n 0, 1)) rfl (lv_at hl 1 rfl) ?_
    refine lv_iload hx hb (by decide +kernel : decode code 293 = .ok (.iload 4, 2)) (lv_at hl 5 rfl) ?_
    refine lv_iconst (v := 1) hx hb (by decide +kernel : decode code 295 = .ok (.iconst 1, 1)) (by decide) ?_
    refine lv_iadd hx hb (by decide +kernel : decode code 296 = .ok (.iadd, 1)) ?_
    refine va_sld (i := nI i + 1) hx hb hX hbl hbA hS1 in1 (by decide +kernel : decode code 297 = .ok (.iaload, 1)) ?_
    refine lv_topi (fun w1 ew1 => ?_)
    have z1 : w1 = Int32.ofInt a1 := ew1.trans ey1.symm
    subst z1
    refine call_ret (own := RL) (y := 257) (r := 38) (as := [(0, a1)]) (rest := []) (d := 1475) ⟨hx, hb, hml, hown, hts⟩ hEV hA hS1 hw1 (of_ref hP1 rfl hw1.2.2 (by decide) (oa_c (oa_i r1) oa_n)) (by unfold OKY; decide +kernel) mr_told rfl (by decide) hl.1 (by decide +kernel : decode code 298 = .ok (.invokevirtual 67, 3)) (Nat.le_of_ble_eq_true rfl) (Nat.le_of_ble_eq_true rfl) hc hs rfl (fun x2 v2 H2 locs2 hP2 hrg2 hw2 hS2 => ?_)
    obtain ⟨e1, e2, hV2⟩ := hP2
    refine lw_tail (q := 301) (off := 159) tl_told C hS2 hw2 hV2 (by rw [e2]; rfl) (fun _ => by rw [e1]; exact hf1) hl hc hs (fun H3 locs3 ls3 hI3 => kk t v2 f1 H3 locs3 ls3 hI3)
  · refine hp_thr C hS hw (ht_told_1 (t9 := t) hM) cw_told hl_told hs_told rfl (by decide +kernel : (parseMethodDescriptor yL_told.desc).map (fun d => d.parameters.length) = some 3) (by decide) rfl hl.1 (by decide +kernel : decode code 286 = .ok (.invokestatic 64, 3)) hc hs rfl (fun H1 locs1 hw1 hS1 => ?_)
    refine lv_istore (lv' := (5, .int 1) :: lvL b ad o (nI i)) hx hb (by decide +kernel : decode code 289 = .ok (.istore 5, 2)) hl (by decide) rfl (fun ls hl => ?_)
    refine lv_aload_n hx hb (by decide +kernel : decode code 291 = .ok (.aload_n 2, 1)) rfl (lv_at hl 3 rfl) ?_
    refine lv_aload_n hx hb (by decide +kernel : decode code 292 = .ok (.aload_n 0, 1)) rfl (lv_at hl 1 rfl) ?_
    refine lv_iload hx hb (by decide +kernel : decode code 293 = .ok (.iload 4, 2)) (lv_at hl 5 rfl) ?_
    refine lv_iconst (v := 1) hx hb (by decide +kernel : decode code 295 = .ok (.iconst 1, 1)) (by decide) ?_
    refine lv_iadd hx hb (by decide +kernel : decode code 296 = .ok (.iadd, 1)) ?_
    refine va_sld (i := nI i + 1) hx hb hX hbl hbA hS1 in1 (by decide +kernel : decode code 297 = .ok (.iaload, 1)) ?_
    refine lv_topi (fun w1 ew1 => ?_)
    have z1 : w1 = Int32.ofInt a1 := ew1.trans ey1.symm
    subst z1
    refine call_ret (own := RL) (y := 257) (r := 38) (as := [(0, a1)]) (rest := []) (d := 1475) ⟨hx, hb, hml, hown, hts⟩ hEV hA hS1 hw1 (of_ref hR2 rfl hw1.2.2 (by decide) (oa_c (oa_i r1) oa_n)) (by unfold OKY; decide +kernel) mr_told rfl (by decide) hl.1 (by decide +kernel : decode code 298 = .ok (.invokevirtual 67, 3)) (Nat.le_of_ble_eq_true rfl) (Nat.le_of_ble_eq_true rfl) hc hs rfl (fun x2 v2 H2 locs2 hP2 hrg2 hw2 hS2 => ?_)
    obtain ⟨e2, hV2⟩ := hP2
    refine lw_tail (q := 301) (off := 159) tl_told C hS2 hw2 hV2 (by rw [e2]; rfl) (fun q => absurd q (by decide)) hl hc hs (fun H3 locs3 ls3 hI3 => kk t v2 f H3 locs3 ls3 hI3)
  · refine hp_thr C hS hw (ht_told_2 (t9 := t) hM) cw_told hl_told hs_told rfl (by decide +kernel : (parseMethodDescriptor yL_told.desc).map (fun d => d.parameters.length) = some 3) (by decide) rfl hl.1 (by decide +kernel : decode code 286 = .ok (.invokestatic 64, 3)) hc hs rfl (fun H1 locs1 hw1 hS1 => ?_)
    refine lv_istore (lv' := (5, .int 2) :: lvL b ad o (nI i)) hx hb (by decide +kernel : decode code 289 = .ok (.istore 5, 2)) hl (by decide) rfl (fun ls hl => ?_)
    refine lv_aload_n hx hb (by decide +kernel : decode code 291 = .ok (.aload_n 2, 1)) rfl (lv_at hl 3 rfl) ?_
    refine lv_aload_n hx hb (by decide +kernel : decode code 292 = .ok (.aload_n 0, 1)) rfl (lv_at hl 1 rfl) ?_
    refine lv_iload hx hb (by decide +kernel : decode code 293 = .ok (.iload 4, 2)) (lv_at hl 5 rfl) ?_
    refine lv_iconst (v := 1) hx hb (by decide +kernel : decode code 295 = .ok (.iconst 1, 1)) (by decide) ?_
    refine lv_iadd hx hb (by decide +kernel : decode code 296 = .ok (.iadd, 1)) ?_
    refine va_sld (i := nI i + 1) hx hb hX hbl hbA hS1 in1 (by decide +kernel : decode code 297 = .ok (.iaload, 1)) ?_
    refine lv_topi (fun w1 ew1 => ?_)
    have z1 : w1 = Int32.ofInt a1 := ew1.trans ey1.symm
    subst z1
    refine call_ret (own := RL) (y := 257) (r := 38) (as := [(0, a1)]) (rest := []) (d := 1475) ⟨hx, hb, hml, hown, hts⟩ hEV hA hS1 hw1 (of_ref hR2 rfl hw1.2.2 (by decide) (oa_c (oa_i r1) oa_n)) (by unfold OKY; decide +kernel) mr_told rfl (by decide) hl.1 (by decide +kernel : decode code 298 = .ok (.invokevirtual 67, 3)) (Nat.le_of_ble_eq_true rfl) (Nat.le_of_ble_eq_true rfl) hc hs rfl (fun x2 v2 H2 locs2 hP2 hrg2 hw2 hS2 => ?_)
    obtain ⟨e2, hV2⟩ := hP2
    refine lw_tail (q := 301) (off := 159) tl_told C hS2 hw2 hV2 (by rw [e2]; rfl) (fun q => absurd q (by decide)) hl hc hs (fun H3 locs3 ls3 hI3 => kk t v2 f H3 locs3 ls3 hI3)
set_option maxRecDepth 100000 in
theorem hl_letter : Cond.methodLink RL 68 yL_letter ∈ lw_tbl := List.mem_of_getElem? (i := 1388) rfl
set_option maxRecDepth 100000 in
theorem hs_letter : Cond.static yL_letter ∈ lw_tbl := List.mem_of_getElem? (i := 1389) rfl
set_option maxRecDepth 100000 in
theorem mr_letter : Cond.methodLink RL 70 (yn 259) ∈ lw_tbl := List.mem_of_getElem? (i := 2054) rfl
theorem tl_letter : TL 357 103 := by unfold TL; decide +kernel
set_option maxRecDepth 100000 in
theorem lc_letter {p : Program} {l : Launch} {e : Env} {s : State} {m : MethodId} {below : List Frame} {meth : Method} {c : Code} {H : Heap} {locs : List Loc} {cells slots : Nat} {Q : State → Prop} {G : va_G} {cA : Nat → ClassId} {E : EE} {A : Nat → Prop} {o : Nat} {ad : Nat → Nat} {ls : Array Slot} {t : Int} {b L i : Nat} {v : Mem} {f : Nat → Int64} {xs : Nat → Int32} (C : LC p l s m c b L xs G cA E A) (hI : LI s G cA E A o ad b (nI i) t v f H locs ls) (hi : i + 3 < L) (hL : L ≤ 2048) (hc : cells + 1 ≤ 601024) (hs : slots + 6 ≤ 7293034) (kk : ∀ (t : Int) (v : Mem) (f : Nat → Int64) (H : Heap) (locs : List Loc) (ls : Array Slot), LI s G cA E A o ad b (nI i) t v f H locs ls → W p l e room_1 s m #[Value.ref b] below meth c H locs (cells + 1) (slots + 6) Q (F0 m 490 ls [])) : W p l e room_1 s m #[Value.ref b] below meth c H locs cells slots Q (F0 m 334 ls []) := by
  obtain ⟨hx, hb, hml, hown, hts, hX, hbl, hbA, hEV, hXE, hNC, hA, hl0⟩ := id C
  obtain ⟨hw, hV, hS, hl⟩ := hI
  have in1 : vp_in (nI i + 1) L := by rw [show nI i + 1 = nI (i + 1) from nI_add i 1]; exact vp_in_nI (by omega) (by omega)
  have in2 : vp_in (nI i + 2) L := by rw [show nI i + 2 = nI (i + 2) from nI_add i 2]; exact vp_in_nI (by omega) (by omega)
  have in3 : vp_in (nI i + 3) L := by rw [show nI i + 3 = nI (i + 3) from nI_add i 3]; exact vp_in_nI (by omega) (by omega)
  refine lv_aload_n hx hb (by decide +kernel : decode code 334 = .ok (.aload_n 1, 1)) rfl (lv_at hl 1 rfl) ?_
  refine lv_aload_n hx hb (by decide +kernel : decode code 335 = .ok (.aload_n 0, 1)) rfl (lv_at hl 0 rfl) ?_
  refine lv_iload hx hb (by decide +kernel : decode code 336 = .ok (.iload 4, 2)) (lv_at hl 4 rfl) ?_
  refine lv_iconst (v := 1) hx hb (by decide +kernel : decode code 338 = .ok (.iconst 1, 1)) (by decide) ?_
  refine lv_iadd hx hb (by decide +kernel : decode code 339 = .ok (.iadd, 1)) ?_
  refine va_sld (i := nI i + 1) hx hb hX hbl hbA hS in1 (by decide +kernel : decode code 340 = .ok (.iaload, 1)) ?_
  refine lv_topi (fun y1 ey1 => ?_)
  obtain ⟨a1, r1, z1⟩ := i32_of y1
  subst z1
  refine lv_aload_n hx hb (by decide +kernel : decode code 341 = .ok (.aload_n 3, 1)) rfl (lv_at hl 3 rfl) ?_
  rcases of_letter (l := l) (G := G) (cA := cA) (E := E) (B0 := B1 A o) (ad := ad) hl0 hV hw.2.2 r1 with hM | ⟨hM, hR2⟩
  · refine W.widen (k := cells + 1) (n := slots + 6) (Nat.le_succ _) (Nat.le_add_right _ _) ?_
    refine hp_ret (t9 := t) C hS hw (hr_letter hM) cw_letter hl_letter hs_letter rfl (by decide +kernel : (parseMethodDescriptor yL_letter.desc).map (fun d => d.parameters.length) = some 3) (by decide) rfl hl.1 (by decide +kernel : decode code 342 = .ok (.invokestatic 68, 3)) hc hs rfl (fun x1 v1 f1 H1 locs1 hP1 hrg1 hf1 hw1 hS1 => ?_)
    refine lv_istore (lv' := (5, .int 0) :: lvL b ad o (nI i)) hx hb (by decide +kernel : decode code 345 = .ok (.istore 5, 2)) hl (by decide) rfl (fun ls hl => ?_)
    refine lv_aload_n hx hb (by decide +kernel : decode code 347 = .ok (.aload_n 2, 1)) rfl (lv_at hl 3 rfl) ?_
    refine lv_aload_n hx hb (by decide +kernel : decode code 348 = .ok (.aload_n 0, 1)) rfl (lv_at hl 1 rfl) ?_
    refine lv_iload hx hb (by decide +kernel : decode code 349 = .ok (.iload 4, 2)) (lv_at hl 5 rfl) ?_
    refine lv_iconst (v := 1) hx hb (by decide +kernel : decode code 351 = .ok (.iconst 1, 1)) (by decide) ?_
    refine lv_iadd hx hb (by decide +kernel : decode code 352 = .ok (.iadd, 1)) ?_
    refine va_sld (i := nI i + 1) hx hb hX hbl hbA hS1 in1 (by decide +kernel : decode code 353 = .ok (.iaload, 1)) ?_
    refine lv_topi (fun w1 ew1 => ?_)
    have z1 : w1 = Int32.ofInt a1 := ew1.trans ey1.symm
    subst z1
    refine call_ret (own := RL) (y := 259) (r := 38) (as := [(0, a1)]) (rest := []) (d := 1475) ⟨hx, hb, hml, hown, hts⟩ hEV hA hS1 hw1 (of_ref hP1 rfl hw1.2.2 (by decide) (oa_c (oa_i r1) oa_n)) (by unfold OKY; decide +kernel) mr_letter rfl (by decide) hl.1 (by decide +kernel : decode code 354 = .ok (.invokevirtual 70, 3)) (Nat.le_of_ble_eq_true rfl) (Nat.le_of_ble_eq_true rfl) hc hs rfl (fun x2 v2 H2 locs2 hP2 hrg2 hw2 hS2 => ?_)
    obtain ⟨e1, e2, hV2⟩ := hP2
    refine lw_tail (q := 357) (off := 103) tl_letter C hS2 hw2 hV2 (by rw [e2]; rfl) (fun _ => by rw [e1]; exact hf1) hl hc hs (fun H3 locs3 ls3 hI3 => kk t v2 f1 H3 locs3 ls3 hI3)
  · refine hp_thr C hS hw (ht_letter_1 (t9 := t) hM) cw_letter hl_letter hs_letter rfl (by decide +kernel : (parseMethodDescriptor yL_letter.desc).map (fun d => d.parameters.length) = some 3) (by decide) rfl hl.1 (by decide +kernel : decode code 342 = .ok (.invokestatic 68, 3)) hc hs rfl (fun H1 locs1 hw1 hS1 => ?_)
    refine lv_istore (lv' := (5, .int 1) :: lvL b ad o (nI i)) hx hb (by decide +kernel : decode code 345 = .ok (.istore 5, 2)) hl (by decide) rfl (fun ls hl => ?_)
    refine lv_aload_n hx hb (by decide +kernel : decode code 347 = .ok (.aload_n 2, 1)) rfl (lv_at hl 3 rfl) ?_
    refine lv_aload_n hx hb (by decide +kernel : decode code 348 = .ok (.aload_n 0, 1)) rfl (lv_at hl 1 rfl) ?_
    refine lv_iload hx hb (by decide +kernel : decode code 349 = .ok (.iload 4, 2)) (lv_at hl 5 rfl) ?_
    refine lv_iconst (v := 1) hx hb (by decide +kernel : decode code 351 = .ok (.iconst 1, 1)) (by decide) ?_
    refine lv_iadd hx hb (by decide +kernel : decode code 352 = .ok (.iadd, 1)) ?_
    refine va_sld (i := nI i + 1) hx hb hX hbl hbA hS1 in1 (by decide +kernel : decode code 353 = .ok (.iaload, 1)) ?_
    refine lv_topi (fun w1 ew1 => ?_)
    have z1 : w1 = Int32.ofInt a1 := ew1.trans ey1.symm
    subst z1
    refine call_ret (own := RL) (y := 259) (r := 38) (as := [(0, a1)]) (rest := []) (d := 1475) ⟨hx, hb, hml, hown, hts⟩ hEV hA hS1 hw1 (of_ref hR2 rfl hw1.2.2 (by decide) (oa_c (oa_i r1) oa_n)) (by unfold OKY; decide +kernel) mr_letter rfl (by decide) hl.1 (by decide +kernel : decode code 354 = .ok (.invokevirtual 70, 3)) (Nat.le_of_ble_eq_true rfl) (Nat.le_of_ble_eq_true rfl) hc hs rfl (fun x2 v2 H2 locs2 hP2 hrg2 hw2 hS2 => ?_)
    obtain ⟨e2, hV2⟩ := hP2
    refine lw_tail (q := 357) (off := 103) tl_letter C hS2 hw2 hV2 (by rw [e2]; rfl) (fun q => absurd q (by decide)) hl hc hs (fun H3 locs3 ls3 hI3 => kk t v2 f H3 locs3 ls3 hI3)
set_option maxRecDepth 100000 in
theorem hl_whose : Cond.methodLink RL 71 yL_whose ∈ lw_tbl := List.mem_of_getElem? (i := 1396) rfl
set_option maxRecDepth 100000 in
theorem hs_whose : Cond.static yL_whose ∈ lw_tbl := List.mem_of_getElem? (i := 1397) rfl
set_option maxRecDepth 100000 in
theorem mr_whose : Cond.methodLink RL 73 (yn 260) ∈ lw_tbl := List.mem_of_getElem? (i := 2058) rfl
theorem tl_whose : TL 413 47 := by unfold TL; decide +kernel
set_option maxRecDepth 100000 in
theorem lc_whose {p : Program} {l : Launch} {e : Env} {s : State} {m : MethodId} {below : List Frame} {meth : Method} {c : Code} {H : Heap} {locs : List Loc} {cells slots : Nat} {Q : State → Prop} {G : va_G} {cA : Nat → ClassId} {E : EE} {A : Nat → Prop} {o : Nat} {ad : Nat → Nat} {ls : Array Slot} {t : Int} {b L i : Nat} {v : Mem} {f : Nat → Int64} {xs : Nat → Int32} (C : LC p l s m c b L xs G cA E A) (hI : LI s G cA E A o ad b (nI i) t v f H locs ls) (hi : i + 3 < L) (hL : L ≤ 2048) (hc : cells + 1 ≤ 601024) (hs : slots + 6 ≤ 7293034) (kk : ∀ (t : Int) (v : Mem) (f : Nat → Int64) (H : Heap) (locs : List Loc) (ls : Array Slot), LI s G cA E A o ad b (nI i) t v f H locs ls → W p l e room_1 s m #[Value.ref b] below meth c H locs (cells + 1) (slots + 6) Q (F0 m 490 ls [])) : W p l e room_1 s m #[Value.ref b] below meth c H locs cells slots Q (F0 m 390 ls []) := by
  obtain ⟨hx, hb, hml, hown, hts, hX, hbl, hbA, hEV, hXE, hNC, hA, hl0⟩ := id C
  obtain ⟨hw, hV, hS, hl⟩ := hI
  have in1 : vp_in (nI i + 1) L := by rw [show nI i + 1 = nI (i + 1) from nI_add i 1]; exact vp_in_nI (by omega) (by omega)
  have in2 : vp_in (nI i + 2) L := by rw [show nI i + 2 = nI (i + 2) from nI_add i 2]; exact vp_in_nI (by omega) (by omega)
  have in3 : vp_in (nI i + 3) L := by rw [show nI i + 3 = nI (i + 3) from nI_add i 3]; exact vp_in_nI (by omega) (by omega)
  refine lv_aload_n hx hb (by decide +kernel : decode code 390 = .ok (.aload_n 1, 1)) rfl (lv_at hl 1 rfl) ?_
  refine lv_aload_n hx hb (by decide +kernel : decode code 391 = .ok (.aload_n 0, 1)) rfl (lv_at hl 0 rfl) ?_
  refine lv_iload hx hb (by decide +kernel : decode code 392 = .ok (.iload 4, 2)) (lv_at hl 4 rfl) ?_
  refine lv_iconst (v := 1) hx hb (by decide +kernel : decode code 394 = .ok (.iconst 1, 1)) (by decide) ?_
  refine lv_iadd hx hb (by decide +kernel : decode code 395 = .ok (.iadd, 1)) ?_
  refine va_sld (i := nI i + 1) hx hb hX hbl hbA hS in1 (by decide +kernel : decode code 396 = .ok (.iaload, 1)) ?_
  refine lv_topi (fun y1 ey1 => ?_)
  obtain ⟨a1, r1, z1⟩ := i32_of y1
  subst z1
  refine lv_aload_n hx hb (by decide +kernel : decode code 397 = .ok (.aload_n 3, 1)) rfl (lv_at hl 3 rfl) ?_
  rcases of_whose (l := l) (G := G) (cA := cA) (E := E) (B0 := B1 A o) (ad := ad) hl0 hV hw.2.2 r1 with (hM | ⟨hM, hR2⟩) | ⟨hM, hR2⟩
  · refine W.widen (k := cells + 1) (n := slots + 6) (Nat.le_succ _) (Nat.le_add_right _ _) ?_
    refine hp_ret (t9 := t) C hS hw (hr_whose hM) cw_whose hl_whose hs_whose rfl (by decide +kernel : (parseMethodDescriptor yL_whose.desc).map (fun d => d.parameters.length) = some 3) (by decide) rfl hl.1 (by decide +kernel : decode code 398 = .ok (.invokestatic 71, 3)) hc hs rfl (fun x1 v1 f1 H1 locs1 hP1 hrg1 hf1 hw1 hS1 => ?_)
    refine lv_istore (lv' := (5, .int 0) :: lvL b ad o (nI i)) hx hb (by decide +kernel : decode code 401 = .ok (.istore 5, 2)) hl (by decide) rfl (fun ls hl => ?_)
    refine lv_aload_n hx hb (by decide +kernel : decode code 403 = .ok (.aload_n 2, 1)) rfl (lv_at hl 3 rfl) ?_
    refine lv_aload_n hx hb (by decide +kernel : decode code 404 = .ok (.aload_n 0, 1)) rfl (lv_at hl 1 rfl) ?_
    refine lv_iload hx hb (by decide +kernel : decode code 405 = .ok (.iload 4, 2)) (lv_at hl 5 rfl) ?_
    refine lv_iconst (v := 1) hx hb (by decide +kernel : decode code 407 = .ok (.iconst 1, 1)) (by decide) ?_
    refine lv_iadd hx hb (by decide +kernel : decode code 408 = .ok (.iadd, 1)) ?_
    refine va_sld (i := nI i + 1) hx hb hX hbl hbA hS1 in1 (by decide +kernel : decode code 409 = .ok (.iaload, 1)) ?_
    refine lv_topi (fun w1 ew1 => ?_)
    have z1 : w1 = Int32.ofInt a1 := ew1.trans ey1.symm
    subst z1
    refine call_ret (own := RL) (y := 260) (r := 38) (as := [(0, a1)]) (rest := []) (d := 1475) ⟨hx, hb, hml, hown, hts⟩ hEV hA hS1 hw1 (of_ref hP1 rfl hw1.2.2 (by decide) (oa_c (oa_i r1) oa_n)) (by unfold OKY; decide +kernel) mr_whose rfl (by decide) hl.1 (by decide +kernel : decode code 410 = .ok (.invokevirtual 73, 3)) (Nat.le_of_ble_eq_true rfl) (Nat.le_of_ble_eq_true rfl) hc hs rfl (fun x2 v2 H2 locs2 hP2 hrg2 hw2 hS2 => ?_)
    obtain ⟨e1, e2, hV2⟩ := hP2
    refine lw_tail (q := 413) (off := 47) tl_whose C hS2 hw2 hV2 (by rw [e2]; rfl) (fun _ => by rw [e1]; exact hf1) hl hc hs (fun H3 locs3 ls3 hI3 => kk t v2 f1 H3 locs3 ls3 hI3)
  · refine hp_thr C hS hw (ht_whose_1 (t9 := t) hM) cw_whose hl_whose hs_whose rfl (by decide +kernel : (parseMethodDescriptor yL_whose.desc).map (fun d => d.parameters.length) = some 3) (by decide) rfl hl.1 (by decide +kernel : decode code 398 = .ok (.invokestatic 71, 3)) hc hs rfl (fun H1 locs1 hw1 hS1 => ?_)
    refine lv_istore (lv' := (5, .int 1) :: lvL b ad o (nI i)) hx hb (by decide +kernel : decode code 401 = .ok (.istore 5, 2)) hl (by decide) rfl (fun ls hl => ?_)
    refine lv_aload_n hx hb (by decide +kernel : decode code 403 = .ok (.aload_n 2, 1)) rfl (lv_at hl 3 rfl) ?_
    refine lv_aload_n hx hb (by decide +kernel : decode code 404 = .ok (.aload_n 0, 1)) rfl (lv_at hl 1 rfl) ?_
    refine lv_iload hx hb (by decide +kernel : decode code 405 = .ok (.iload 4, 2)) (lv_at hl 5 rfl) ?_
    refine lv_iconst (v := 1) hx hb (by decide +kernel : decode code 407 = .ok (.iconst 1, 1)) (by decide) ?_
    refine lv_iadd hx hb (by decide +kernel : decode code 408 = .ok (.iadd, 1)) ?_
    refine va_sld (i := nI i + 1) hx hb hX hbl hbA hS1 in1 (by decide +kernel : decode code 409 = .ok (.iaload, 1)) ?_
    refine lv_topi (fun w1 ew1 => ?_)
    have z1 : w1 = Int32.ofInt a1 := ew1.trans ey1.symm
    subst z1
    refine call_ret (own := RL) (y := 260) (r := 38) (as := [(0, a1)]) (rest := []) (d := 1475) ⟨hx, hb, hml, hown, hts⟩ hEV hA hS1 hw1 (of_ref hR2 rfl hw1.2.2 (by decide) (oa_c (oa_i r1) oa_n)) (by unfold OKY; decide +kernel) mr_whose rfl (by decide) hl.1 (by decide +kernel : decode code 410 = .ok (.invokevirtual 73, 3)) (Nat.le_of_ble_eq_true rfl) (Nat.le_of_ble_eq_true rfl) hc hs rfl (fun x2 v2 H2 locs2 hP2 hrg2 hw2 hS2 => ?_)
    obtain ⟨e2, hV2⟩ := hP2
    refine lw_tail (q := 413) (off := 47) tl_whose C hS2 hw2 hV2 (by rw [e2]; rfl) (fun q => absurd q (by decide)) hl hc hs (fun H3 locs3 ls3 hI3 => kk t v2 f H3 locs3 ls3 hI3)
  · refine hp_thr C hS hw (ht_whose_2 (t9 := t) hM) cw_whose hl_whose hs_whose rfl (by decide +kernel : (parseMethodDescriptor yL_whose.desc).map (fun d => d.parameters.length) = some 3) (by decide) rfl hl.1 (by decide +kernel : decode code 398 = .ok (.invokestatic 71, 3)) hc hs rfl (fun H1 locs1 hw1 hS1 => ?_)
    refine lv_istore (lv' := (5, .int 2) :: lvL b ad o (nI i)) hx hb (by decide +kernel : decode code 401 = .ok (.istore 5, 2)) hl (by decide) rfl (fun ls hl => ?_)
    refine lv_aload_n hx hb (by decide +kernel : decode code 403 = .ok (.aload_n 2, 1)) rfl (lv_at hl 3 rfl) ?_
    refine lv_aload_n hx hb (by decide +kernel : decode code 404 = .ok (.aload_n 0, 1)) rfl (lv_at hl 1 rfl) ?_
    refine lv_iload hx hb (by decide +kernel : decode code 405 = .ok (.iload 4, 2)) (lv_at hl 5 rfl) ?_
    refine lv_iconst (v := 1) hx hb (by decide +kernel : decode code 407 = .ok (.iconst 1, 1)) (by decide) ?_
    refine lv_iadd hx hb (by decide +kernel : decode code 408 = .ok (.iadd, 1)) ?_
    refine va_sld (i := nI i + 1) hx hb hX hbl hbA hS1 in1 (by decide +kernel : decode code 409 = .ok (.iaload, 1)) ?_
    refine lv_topi (fun w1 ew1 => ?_)
    have z1 : w1 = Int32.ofInt a1 := ew1.trans ey1.symm
    subst z1
    refine call_ret (own := RL) (y := 260) (r := 38) (as := [(0, a1)]) (rest := []) (d := 1475) ⟨hx, hb, hml, hown, hts⟩ hEV hA hS1 hw1 (of_ref hR2 rfl hw1.2.2 (by decide) (oa_c (oa_i r1) oa_n)) (by unfold OKY; decide +kernel) mr_whose rfl (by decide) hl.1 (by decide +kernel : decode code 410 = .ok (.invokevirtual 73, 3)) (Nat.le_of_ble_eq_true rfl) (Nat.le_of_ble_eq_true rfl) hc hs rfl (fun x2 v2 H2 locs2 hP2 hrg2 hw2 hS2 => ?_)
    obtain ⟨e2, hV2⟩ := hP2
    refine lw_tail (q := 413) (off := 47) tl_whose C hS2 hw2 hV2 (by rw [e2]; rfl) (fun q => absurd q (by decide)) hl hc hs (fun H3 locs3 ls3 hI3 => kk t v2 f H3 locs3 ls3 hI3)
set_option maxRecDepth 100000 in
theorem hl_wrong : Cond.methodLink RL 74 yL_wrong ∈ lw_tbl := List.mem_of_getElem? (i := 1428) rfl
set_option maxRecDepth 100000 in
theorem hs_wrong : Cond.static yL_wrong ∈ lw_tbl := List.mem_of_getElem? (i := 1429) rfl
set_option maxRecDepth 100000 in
theorem mr_wrong : Cond.methodLink RL 77 (yn 261) ∈ lw_tbl := List.mem_of_getElem? (i := 2062) rfl
theorem tl_wrong : TL 457 3 := by unfold TL; decide +kernel
set_option maxRecDepth 100000 in
theorem lc_wrong {p : Program} {l : Launch} {e : Env} {s : State} {m : MethodId} {below : List Frame} {meth : Method} {c : Code} {H : Heap} {locs : List Loc} {cells slots : Nat} {Q : State → Prop} {G : va_G} {cA : Nat → ClassId} {E : EE} {A : Nat → Prop} {o : Nat} {ad : Nat → Nat} {ls : Array Slot} {t : Int} {b L i : Nat} {v : Mem} {f : Nat → Int64} {xs : Nat → Int32} (C : LC p l s m c b L xs G cA E A) (hI : LI s G cA E A o ad b (nI i) t v f H locs ls) (hi : i + 3 < L) (hL : L ≤ 2048) (hc : cells + 1 ≤ 601024) (hs : slots + 6 ≤ 7293034) (kk : ∀ (t : Int) (v : Mem) (f : Nat → Int64) (H : Heap) (locs : List Loc) (ls : Array Slot), LI s G cA E A o ad b (nI i) t v f H locs ls → W p l e room_1 s m #[Value.ref b] below meth c H locs (cells + 1) (slots + 6) Q (F0 m 490 ls [])) : W p l e room_1 s m #[Value.ref b] below meth c H locs cells slots Q (F0 m 446 ls []) := by
  obtain ⟨hx, hb, hml, hown, hts, hX, hbl, hbA, hEV, hXE, hNC, hA, hl0⟩ := id C
  obtain ⟨hw, hV, hS, hl⟩ := hI
  have in1 : vp_in (nI i + 1) L := by rw [show nI i + 1 = nI (i + 1) from nI_add i 1]; exact vp_in_nI (by omega) (by omega)
  have in2 : vp_in (nI i + 2) L := by rw [show nI i + 2 = nI (i + 2) from nI_add i 2]; exact vp_in_nI (by omega) (by omega)
  have in3 : vp_in (nI i + 3) L := by rw [show nI i + 3 = nI (i + 3) from nI_add i 3]; exact vp_in_nI (by omega) (by omega)
  refine lv_aload_n hx hb (by decide +kernel : decode code 446 = .ok (.aload_n 1, 1)) rfl (lv_at hl 1 rfl) ?_
  refine lv_aload_n hx hb (by decide +kernel : decode code 447 = .ok (.aload_n 3, 1)) rfl (lv_at hl 3 rfl) ?_
  rcases of_wrong (l := l) (G := G) (cA := cA) (E := E) (B0 := B1 A o) (ad := ad) hl0 hV hw.2.2  with hM | ⟨hM, hR2⟩
  · refine W.widen (k := cells + 1) (n := slots + 6) (Nat.le_succ _) (Nat.le_add_right _ _) ?_
    refine hp_ret (t9 := t) C hS hw (hr_wrong hM) cw_wrong hl_wrong hs_wrong rfl (by decide +kernel : (parseMethodDescriptor yL_wrong.desc).map (fun d => d.parameters.length) = some 2) (by decide) rfl hl.1 (by decide +kernel : decode code 448 = .ok (.invokestatic 74, 3)) hc hs rfl (fun x1 v1 f1 H1 locs1 hP1 hrg1 hf1 hw1 hS1 => ?_)
    refine lv_istore (lv' := (5, .int 0) :: lvL b ad o (nI i)) hx hb (by decide +kernel : decode code 451 = .ok (.istore 5, 2)) hl (by decide) rfl (fun ls hl => ?_)
    refine lv_aload_n hx hb (by decide +kernel : decode code 453 = .ok (.aload_n 2, 1)) rfl (lv_at hl 3 rfl) ?_
    refine call_ret (own := RL) (y := 261) (r := 38) (as := []) (rest := []) (d := 1475) ⟨hx, hb, hml, hown, hts⟩ hEV hA hS1 hw1 (of_ref hP1 rfl hw1.2.2 (by decide) oa_n) (by unfold OKY; decide +kernel) mr_wrong rfl (by decide) hl.1 (by decide +kernel : decode code 454 = .ok (.invokevirtual 77, 3)) (Nat.le_of_ble_eq_true rfl) (Nat.le_of_ble_eq_true rfl) hc hs rfl (fun x2 v2 H2 locs2 hP2 hrg2 hw2 hS2 => ?_)
    obtain ⟨e1, e2, hV2⟩ := hP2
    refine lw_tail (q := 457) (off := 3) tl_wrong C hS2 hw2 hV2 (by rw [e2]; rfl) (fun _ => by rw [e1]; exact hf1) hl hc hs (fun H3 locs3 ls3 hI3 => kk t v2 f1 H3 locs3 ls3 hI3)
  · refine hp_thr C hS hw (ht_wrong_1 (t9 := t) hM) cw_wrong hl_wrong hs_wrong rfl (by decide +kernel : (parseMethodDescriptor yL_wrong.desc).map (fun d => d.parameters.length) = some 2) (by decide) rfl hl.1 (by decide +kernel : decode code 448 = .ok (.invokestatic 74, 3)) hc hs rfl (fun H1 locs1 hw1 hS1 => ?_)
    refine lv_istore (lv' := (5, .int 1) :: lvL b ad o (nI i)) hx hb (by decide +kernel : decode code 451 = .ok (.istore 5, 2)) hl (by decide) rfl (fun ls hl => ?_)
    refine lv_aload_n hx hb (by decide +kernel : decode code 453 = .ok (.aload_n 2, 1)) rfl (lv_at hl 3 rfl) ?_
    refine call_ret (own := RL) (y := 261) (r := 38) (as := []) (rest := []) (d := 1475) ⟨hx, hb, hml, hown, hts⟩ hEV hA hS1 hw1 (of_ref hR2 rfl hw1.2.2 (by decide) oa_n) (by unfold OKY; decide +kernel) mr_wrong rfl (by decide) hl.1 (by decide +kernel : decode code 454 = .ok (.invokevirtual 77, 3)) (Nat.le_of_ble_eq_true rfl) (Nat.le_of_ble_eq_true rfl) hc hs rfl (fun x2 v2 H2 locs2 hP2 hrg2 hw2 hS2 => ?_)
    obtain ⟨e2, hV2⟩ := hP2
    refine lw_tail (q := 457) (off := 3) tl_wrong C hS2 hw2 hV2 (by rw [e2]; rfl) (fun q => absurd q (by decide)) hl hc hs (fun H3 locs3 ls3 hI3 => kk t v2 f H3 locs3 ls3 hI3)
set_option maxRecDepth 100000 in
theorem mc_read : Cond.methodLink RL 52 (yn 173) ∈ lw_tbl := List.mem_of_getElem? (i := 553) rfl
set_option maxRecDepth 100000 in
theorem mr_read : Cond.methodLink RL 55 (yn 229) ∈ lw_tbl := List.mem_of_getElem? (i := 1701) rfl
set_option maxRecDepth 100000 in
theorem lc_read {p : Program} {l : Launch} {e : Env} {s : State} {m : MethodId} {below : List Frame} {meth : Method} {c : Code} {H : Heap} {locs : List Loc} {cells slots : Nat} {Q : State → Prop} {G : va_G} {cA : Nat → ClassId} {E : EE} {A : Nat → Prop} {o : Nat} {ad : Nat → Nat} {ls : Array Slot} {t : Int} {b L i : Nat} {v : Mem} {f : Nat → Int64} {xs : Nat → Int32} (C : LC p l s m c b L xs G cA E A) (hI : LI s G cA E A o ad b (nI i) t v f H locs ls) (hc : cells + 1 ≤ 601024) (hs : slots + 6 ≤ 7293034) (kk : ∀ (t : Int) (v : Mem) (f : Nat → Int64) (H : Heap) (locs : List Loc) (ls : Array Slot), LI s G cA E A o ad b (nI i) t v f H locs ls → W p l e room_1 s m #[Value.ref b] below meth c H locs (cells + 1) (slots + 6) Q (F0 m 490 ls [])) : W p l e room_1 s m #[Value.ref b] below meth c H locs cells slots Q (F0 m 184 ls []) := by
  obtain ⟨hx, hb, hml, hown, hts, hX, hbl, hbA, hEV, hXE, hNC, hA, hl0⟩ := id C
  obtain ⟨hw, hV, hS, hl⟩ := hI
  refine W.widen (k := cells + 1) (n := slots + 6) (Nat.le_succ _) (Nat.le_add_right _ _) ?_
  refine lv_aload_n hx hb (by decide +kernel : decode code 184 = .ok (.aload_n 1, 1)) rfl (lv_at hl 1 rfl) ?_
  obtain ⟨t9, hM⟩ := of_read (l := l) (G := G) (cA := cA) (E := E) (B0 := B1 A o) (ad := ad) hV hw.2.2
  refine call_ret (own := RL) (y := 173) (r := 0) (as := []) (rest := []) (d := 700) (t' := t9) ⟨hx, hb, hml, hown, hts⟩ hEV hA hS hw hM (by unfold OKY; decide +kernel) mc_read rfl (by decide) hl.1 (by decide +kernel : decode code 185 = .ok (.invokevirtual 52, 3)) (Nat.le_of_ble_eq_true rfl) (Nat.le_of_ble_eq_true rfl) hc hs rfl (fun x1 v1 H1 locs1 hP1 hrg1 hw1 hS1 => ?_)
  refine lv_aload_n hx hb (by decide +kernel : decode code 188 = .ok (.aload_n 2, 1)) rfl (lv_at hl 2 rfl) ?_
  refine call_ret (own := RL) (y := 229) (r := 38) (as := []) (rest := [.int (Int32.ofInt x1)]) (d := 1475) (t' := t9) ⟨hx, hb, hml, hown, hts⟩ hEV hA hS1 hw1 (of_ref hP1 rfl hw1.2.2 (by decide) oa_n) (by unfold OKY; decide +kernel) mr_read rfl (by show 1 + 0 ≤ 8; decide) hl.1 (by decide +kernel : decode code 189 = .ok (.invokevirtual 55, 3)) (Nat.le_of_ble_eq_true rfl) (Nat.le_of_ble_eq_true rfl) hc hs rfl (fun x2 v2 H2 locs2 hP2 hrg2 hw2 hS2 => ?_)
  obtain ⟨e1, e2, hV2⟩ := hP2
  exact lv_icmp_eq (tgt := 490) hx hb (by decide +kernel : decode code 192 = .ok (.if_icmp .eq 298, 3)) (by decide) (fun _ => kk t9 v2 f H2 locs2 ls ⟨hw2, hV2, hS2, hl⟩) (fun c1 => absurd (by rw [e1]) c1)
set_option maxRecDepth 100000 in
theorem mc_place : Cond.methodLink RL 56 (yn 174) ∈ lw_tbl := List.mem_of_getElem? (i := 966) rfl
set_option maxRecDepth 100000 in
theorem mr_place : Cond.methodLink RL 59 (yn 230) ∈ lw_tbl := List.mem_of_getElem? (i := 1933) rfl
set_option maxRecDepth 100000 in
theorem lc_place {p : Program} {l : Launch} {e : Env} {s : State} {m : MethodId} {below : List Frame} {meth : Method} {c : Code} {H : Heap} {locs : List Loc} {cells slots : Nat} {Q : State → Prop} {G : va_G} {cA : Nat → ClassId} {E : EE} {A : Nat → Prop} {o : Nat} {ad : Nat → Nat} {ls : Array Slot} {t : Int} {b L i : Nat} {v : Mem} {f : Nat → Int64} {xs : Nat → Int32} (C : LC p l s m c b L xs G cA E A) (hI : LI s G cA E A o ad b (nI i) t v f H locs ls) (hc : cells + 1 ≤ 601024) (hs : slots + 6 ≤ 7293034) (kk : ∀ (t : Int) (v : Mem) (f : Nat → Int64) (H : Heap) (locs : List Loc) (ls : Array Slot), LI s G cA E A o ad b (nI i) t v f H locs ls → W p l e room_1 s m #[Value.ref b] below meth c H locs (cells + 1) (slots + 6) Q (F0 m 490 ls [])) : W p l e room_1 s m #[Value.ref b] below meth c H locs cells slots Q (F0 m 197 ls []) := by
  obtain ⟨hx, hb, hml, hown, hts, hX, hbl, hbA, hEV, hXE, hNC, hA, hl0⟩ := id C
  obtain ⟨hw, hV, hS, hl⟩ := hI
  refine W.widen (k := cells + 1) (n := slots + 6) (Nat.le_succ _) (Nat.le_add_right _ _) ?_
  refine lv_aload_n hx hb (by decide +kernel : decode code 197 = .ok (.aload_n 1, 1)) rfl (lv_at hl 1 rfl) ?_
  have hM := of_place (l := l) (G := G) (cA := cA) (E := E) (B0 := B1 A o) (ad := ad) hV hw.2.2
  refine call_ret (own := RL) (y := 174) (r := 0) (as := []) (rest := []) (d := 30) (t' := t) ⟨hx, hb, hml, hown, hts⟩ hEV hA hS hw hM (by unfold OKY; decide +kernel) mc_place rfl (by decide) hl.1 (by decide +kernel : decode code 198 = .ok (.invokevirtual 56, 3)) (Nat.le_of_ble_eq_true rfl) (Nat.le_of_ble_eq_true rfl) hc hs rfl (fun x1 v1 H1 locs1 hP1 hrg1 hw1 hS1 => ?_)
  refine lv_aload_n hx hb (by decide +kernel : decode code 201 = .ok (.aload_n 2, 1)) rfl (lv_at hl 2 rfl) ?_
  refine call_ret (own := RL) (y := 230) (r := 38) (as := []) (rest := [.int (Int32.ofInt x1)]) (d := 1475) (t' := t) ⟨hx, hb, hml, hown, hts⟩ hEV hA hS1 hw1 (of_ref hP1 rfl hw1.2.2 (by decide) oa_n) (by unfold OKY; decide +kernel) mr_place rfl (by show 1 + 0 ≤ 8; decide) hl.1 (by decide +kernel : decode code 202 = .ok (.invokevirtual 59, 3)) (Nat.le_of_ble_eq_true rfl) (Nat.le_of_ble_eq_true rfl) hc hs rfl (fun x2 v2 H2 locs2 hP2 hrg2 hw2 hS2 => ?_)
  obtain ⟨e1, e2, hV2⟩ := hP2
  exact lv_icmp_eq (tgt := 490) hx hb (by decide +kernel : decode code 205 = .ok (.if_icmp .eq 285, 3)) (by decide) (fun _ => kk t v2 f H2 locs2 ls ⟨hw2, hV2, hS2, hl⟩) (fun c1 => absurd (by rw [e1]) c1)
