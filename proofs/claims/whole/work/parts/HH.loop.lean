/-! The law's loop. -/
theorem and7 (x : Int32) : ∃ k : Nat, k ≤ 7 ∧ x &&& 7 = nI k := by
  refine ⟨(x &&& 7).toBitVec.toNat, ?_, ?_⟩
  · show (x.toBitVec &&& 7#32).toNat ≤ 7
    rw [BitVec.toNat_and]
    exact Nat.and_le_right
  · apply Int32.toBitVec_inj.mp
    show (x &&& 7).toBitVec = BitVec.ofNat 32 (x &&& 7).toBitVec.toNat
    rw [BitVec.ofNat_toNat, BitVec.setWidth_eq]
theorem lp_gt {i L : Nat} (hL : L ≤ 2048) (hi : i ≤ L) (h : ¬ (Int32.ofNat L - 4 < nI i)) : i + 3 < L := by
  have h1 : (nI L - nI 4).toInt = (L : Int) - ((4 : Nat) : Int) := pk_sub_toInt (by omega) (by omega)
  have h2 : (nI i).toInt = (i : Int) := nI_toInt (by omega)
  have h3 : ¬ (nI L - nI 4) < nI i := h
  rw [Int32.lt_iff_toInt_lt, h1, h2] at h3
  omega
section LPA
variable {p : Program} {l : Launch} {e : Env} {s : State} {m : MethodId} {below : List Frame} {meth : Method} {c : Code} {G : va_G} {cA : Nat → ClassId} {E : EE} {A : Nat → Prop} {o : Nat} {ad : Nat → Nat} {b L : Nat} {xs : Nat → Int32}
theorem lp_next {Q : State → Prop} {H : Heap} {locs : List Loc} {ls : Array Slot} {cells slots i : Nat} (C : LC p l s m c b L xs G cA E A) (hl : lv_has ls 7 (lvL b ad o (nI i))) (kk : ∀ ls, lv_has ls 7 (lvL b ad o (nI (i + 4))) → W p l e room_1 s m #[Value.ref b] below meth c H locs cells slots Q (F0 m 23 ls [])) : W p l e room_1 s m #[Value.ref b] below meth c H locs cells slots Q (F0 m 490 ls []) := by
  obtain ⟨hx, hb, hml, hown, hts, hX, hbl, hbA, hEV, hXE, hNC, hA, hl0⟩ := C
  refine lv_iinc (v := nI (i + 4)) (lv' := [(4, .int (nI (i + 4))), (0, .ref b), (1, .ref (ad 0)), (2, .ref (ad 38)), (3, .ref o)]) hx hb (by decide +kernel : decode code 490 = .ok (.iinc 4 4, 3)) hl (k := 4) rfl (nI_add i 4) (by decide) rfl (fun ls hl => ?_)
  refine lv_goto (tgt := 23) hx hb (by decide +kernel : decode code 493 = .ok (.goto (-470), 3)) (by decide) ?_
  exact kk ls (lv_sub hl [1, 2, 3, 4, 0] rfl)
theorem law_loop (C : LC p l s m c b L xs G cA E A) (hr : meth.sig.returnType = ret) (hlocks : meth.locks = false) (hAs : ∀ q, A q → s.heap.size ≤ q) (hL : L ≤ 2048) : ∀ (n i : Nat) (t : Int) (v : Mem) (f : Nat → Int64) (H : Heap) (locs : List Loc) (ls : Array Slot) (cells slots : Nat), i ≤ L → L < i + 4 * n + 4 → cells + n ≤ 601024 → slots + 6 * n ≤ 7293034 → LI s G cA E A o ad b (nI i) t v f H locs ls → W p l e room_1 s m #[Value.ref b] below meth c H locs cells slots (lw_Z below #[Value.ref b] s) (F0 m 23 ls []) := by
  obtain ⟨hx, hb, hml, hown, hts, hX, hbl, hbA, hEV, hXE, hNC, hA, hl0⟩ := id C
  intro n
  induction n with
  | zero =>
    intro i t v f H locs ls cells slots hi hn hc hs hI
    obtain ⟨hw, hV, hS, hl⟩ := hI
    refine lv_iload hx hb (by decide +kernel : decode code 23 = .ok (.iload 4, 2)) (lv_at hl 4 rfl) ?_
    refine lv_aload_n hx hb (by decide +kernel : decode code 25 = .ok (.aload_n 0, 1)) rfl (lv_at hl 0 rfl) ?_
    refine va_slen hx hb hX hbl hbA hS (by decide +kernel : decode code 26 = .ok (.arraylength, 1)) ?_
    refine lv_iconst (v := 4) hx hb (by decide +kernel : decode code 27 = .ok (.iconst 4, 1)) (by decide) ?_
    refine lv_isub hx hb (by decide +kernel : decode code 28 = .ok (.isub, 1)) ?_
    refine lv_icmp_gt (tgt := 496) hx hb (by decide +kernel : decode code 29 = .ok (.if_icmp .gt 467, 3)) (by decide) (fun c1 => ?_) (fun c1 => ?_)
    · refine lv_iconst (v := 1) hx hb (by decide +kernel : decode code 496 = .ok (.iconst 1, 1)) (by decide) ?_
      refine va_forget (fun q hq => hAs _ (hS.2.2 q hq)) ?_
      refine W.widen (k := 601024) (n := 7293034) (by omega) (by omega) ?_
      exact lw_ret hx hb hr hlocks (by decide +kernel : decode code 497 = .ok (.ireturn, 1))
    · have := lp_gt hL hi c1
      omega
  | succ n ih =>
    intro i t v f H locs ls cells slots hi hn hc hs hI
    obtain ⟨hw, hV, hS, hl⟩ := id hI
    refine lv_iload hx hb (by decide +kernel : decode code 23 = .ok (.iload 4, 2)) (lv_at hl 4 rfl) ?_
    refine lv_aload_n hx hb (by decide +kernel : decode code 25 = .ok (.aload_n 0, 1)) rfl (lv_at hl 0 rfl) ?_
    refine va_slen hx hb hX hbl hbA hS (by decide +kernel : decode code 26 = .ok (.arraylength, 1)) ?_
    refine lv_iconst (v := 4) hx hb (by decide +kernel : decode code 27 = .ok (.iconst 4, 1)) (by decide) ?_
    refine lv_isub hx hb (by decide +kernel : decode code 28 = .ok (.isub, 1)) ?_
    refine lv_icmp_gt (tgt := 496) hx hb (by decide +kernel : decode code 29 = .ok (.if_icmp .gt 467, 3)) (by decide) (fun c1 => ?_) (fun c1 => ?_)
    · refine lv_iconst (v := 1) hx hb (by decide +kernel : decode code 496 = .ok (.iconst 1, 1)) (by decide) ?_
      refine va_forget (fun q hq => hAs _ (hS.2.2 q hq)) ?_
      refine W.widen (k := 601024) (n := 7293034) (by omega) (by omega) ?_
      exact lw_ret hx hb hr hlocks (by decide +kernel : decode code 497 = .ok (.ireturn, 1))
    · have h3 := lp_gt hL hi c1
      have kk : ∀ (t : Int) (v : Mem) (f : Nat → Int64) (H : Heap) (locs : List Loc) (ls : Array Slot), LI s G cA E A o ad b (nI i) t v f H locs ls → W p l e room_1 s m #[Value.ref b] below meth c H locs (cells + 1) (slots + 6) (lw_Z below #[Value.ref b] s) (F0 m 490 ls []) := by
        intro t v f H locs ls hI
        obtain ⟨g1, g2, g3, g4⟩ := hI
        exact lp_next C g4 (fun ls hl => ih (i + 4) t v f H locs ls (cells + 1) (slots + 6) (by omega) (by omega) (by omega) (by omega) ⟨g1, g2, g3, hl⟩)
      have hc1 : cells + 1 ≤ 601024 := by omega
      have hs1 : slots + 6 ≤ 7293034 := by omega
      refine lv_aload_n hx hb (by decide +kernel : decode code 32 = .ok (.aload_n 0, 1)) rfl (lv_at hl 0 rfl) ?_
      refine lv_iload hx hb (by decide +kernel : decode code 33 = .ok (.iload 4, 2)) (lv_at hl 4 rfl) ?_
      refine va_sld (i := nI i) hx hb hX hbl hbA hS (vp_in_nI (by omega) (by omega)) (by decide +kernel : decode code 35 = .ok (.iaload, 1)) ?_
      refine lv_bipush (v := 7) hx hb (by decide +kernel : decode code 36 = .ok (.bipush 7, 2)) (by decide) ?_
      refine lv_iand hx hb (by decide +kernel : decode code 38 = .ok (.iand, 1)) ?_
      obtain ⟨k, hk, ek⟩ := and7 (xs (nI i).toNatClampNeg)
      rw [ek]
      have dsw : decode code 39 = .ok (.tableswitch 451 0 7 #[45, 145, 158, 171, 239, 295, 351, 407], 45) := by decide +kernel
      match k, hk with
      | 0, _ => exact lv_tableIn (off := 45) (tgt := 84) hx hb dsw (by decide) (by decide) rfl (by decide) (lc_feed C hI h3 hL hc1 hs1 kk)
      | 1, _ => exact lv_tableIn (off := 145) (tgt := 184) hx hb dsw (by decide) (by decide) rfl (by decide) (lc_read C hI hc1 hs1 kk)
      | 2, _ => exact lv_tableIn (off := 158) (tgt := 197) hx hb dsw (by decide) (by decide) rfl (by decide) (lc_place C hI hc1 hs1 kk)
      | 3, _ => exact lv_tableIn (off := 171) (tgt := 210) hx hb dsw (by decide) (by decide) rfl (by decide) (lc_run C hI h3 hL hc1 hs1 kk)
      | 4, _ => exact lv_tableIn (off := 239) (tgt := 278) hx hb dsw (by decide) (by decide) rfl (by decide) (lc_told C hI h3 hL hc1 hs1 kk)
      | 5, _ => exact lv_tableIn (off := 295) (tgt := 334) hx hb dsw (by decide) (by decide) rfl (by decide) (lc_letter C hI h3 hL hc1 hs1 kk)
      | 6, _ => exact lv_tableIn (off := 351) (tgt := 390) hx hb dsw (by decide) (by decide) rfl (by decide) (lc_whose C hI h3 hL hc1 hs1 kk)
      | 7, _ => exact lv_tableIn (off := 407) (tgt := 446) hx hb dsw (by decide) (by decide) rfl (by decide) (lc_wrong C hI h3 hL hc1 hs1 kk)
      | k + 8, hk => exact absurd hk (by omega)
end LPA
