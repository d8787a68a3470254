/-! Each call of the law: the class returns or throws, and the reference says the same. -/
theorem XH.deep {t : Int} {d y pc pc1 : Nat} {L S L1 S1 : List AV} {v : Mem} (h : XH t d y pc L S v pc1 L1 S1) {d' : Nat} (hd : d ≤ d') : XH t d' y pc L S v pc1 L1 S1 := by
  obtain ⟨k, rfl⟩ := Nat.exists_eq_add_of_le hd
  exact xr_deep h k
def i32 (a : Int) : Prop := -2147483648 ≤ a ∧ a < 2147483648
def i64 (a : Int) : Prop := -9223372036854775808 ≤ a ∧ a < 9223372036854775808
theorem oa_0 {r : Nat} (hr : r < 82) : ∀ q ∈ ([(2, (r : Int))] : List AV), okA 82 q := fun q hq => by
  rw [List.mem_singleton.mp hq]
  show (r : Int) < ((82 : Nat) : Int)
  omega
theorem oa_c {a : AV} {as : List AV} (h : okA 82 a) (hs : ∀ q ∈ as, okA 82 q) : ∀ q ∈ a :: as, okA 82 q := fun q hq => (List.mem_cons.mp hq).elim (fun e => by rw [e]; exact h) (hs q)
theorem oa_n : ∀ q ∈ ([] : List AV), okA 82 q := fun _ h => nomatch h
theorem oa_r {r : Nat} (hr : r < 82) : okA 82 (2, (r : Int)) := by
  show (r : Int) < ((82 : Nat) : Int)
  omega
theorem oa_i {a : Int} (h : i32 a) : okA 82 (0, a) := h
theorem oa_j {a : Int} (h : i64 a) : okA 82 (1, a) := h
/-- one handler -/
def OP1 (l : Launch) (G : va_G) (cA : Nat → ClassId) (E : EE) (B0 : Nat → Prop) (ad : Nat → Nat) (y yr : Nat) (as : List AV) (t : Int) (v : Mem) (X1 : String) : Prop :=
  MR l G cA E B0 ad 30 y ((2, ((0 : Nat) : Int)) :: as) t t v (fun b v1 => RR t 1475 yr ((2, ((38 : Nat) : Int)) :: as) v1 (fun b' v2 => b' = b ∧ v2 38 7 = 0 ∧ INV v2)) ∨
  (MT0 l G cA E B0 ad 30 y ((2, ((0 : Nat) : Int)) :: as) t v X1 ∧ RR t 1475 yr ((2, ((38 : Nat) : Int)) :: as) v (fun _ v2 => v2 38 7 = 1 ∧ INV v2))
/-- two handlers -/
def OP2 (l : Launch) (G : va_G) (cA : Nat → ClassId) (E : EE) (B0 : Nat → Prop) (ad : Nat → Nat) (y yr : Nat) (as : List AV) (t : Int) (v : Mem) (X1 X2 : String) : Prop :=
  OP1 l G cA E B0 ad y yr as t v X1 ∨ (MT0 l G cA E B0 ad 30 y ((2, ((0 : Nat) : Int)) :: as) t v X2 ∧ RR t 1475 yr ((2, ((38 : Nat) : Int)) :: as) v (fun _ v2 => v2 38 7 = 2 ∧ INV v2))
section OPS
variable {l : Launch} {G : va_G} {cA : Nat → ClassId} {E : EE} {B0 : Nat → Prop} {ad : Nat → Nat} {t : Int} {v : Mem}
set_option maxRecDepth 100000 in
theorem of_feed {p0 p1 : Int} (hl : l.stackTraces = false) (hI : INV v) (hok : okS (sg t v)) (h0 : i64 p0) (h1 : i32 p1) : OP1 l G cA E B0 ad 172 183 [(1, p0), (0, p1)] t v nIA := by
  have hoa : ∀ q ∈ ([(2, ((0 : Nat) : Int)), (1, p0), (0, p1)] : List AV), okA 82 q := oa_c (oa_r (by decide)) (oa_c (oa_j h0) (oa_c (oa_i h1) oa_n))
  have hpl : plainName (yn 172).cls = true := by decide +kernel
  by_cases c1 : p1 < 1
  · exact Or.inr ⟨ct_thr hl (y := 172) (pc1 := 11) (is := 67) (by decide) hpl rfl hok hoa rfl (th_172a c1) XW_a (by decide) (by decide +kernel) (by decide +kernel) (by decide +kernel) (by decide +kernel) (by decide +kernel) (by decide), op_feed_x hI (Or.inl c1)⟩
  · by_cases c2 : 8 < p1
    · exact Or.inr ⟨ct_thr hl (y := 172) (pc1 := 11) (is := 67) (by decide) hpl rfl hok hoa rfl (th_172b c1 c2) XW_a (by decide) (by decide +kernel) (by decide +kernel) (by decide +kernel) (by decide +kernel) (by decide +kernel) (by decide), op_feed_x hI (Or.inr (Or.inl c2))⟩
    · by_cases c3 : 3200 < v 0 5 + p1
      · have e1 : w32 (v 0 5 + p1) = v 0 5 + p1 := by
          obtain ⟨nf, n1, n2, -⟩ := hI.1
          exact w32_id (by omega) (by omega)
        exact Or.inr ⟨ct_thr hl (y := 172) (pc1 := 33) (is := 72) (by decide) hpl rfl hok hoa rfl (th_172c c1 c2 (by rw [e1]; exact c3)) XW_a (by decide) (by decide +kernel) (by decide +kernel) (by decide +kernel) (by decide +kernel) (by decide +kernel) (by decide), op_feed_x hI (Or.inr (Or.inr c3))⟩
      · obtain ⟨m, rfl⟩ := Int.eq_ofNat_of_zero_le (show 0 ≤ p1 by omega)
        exact Or.inl (met_xt (y := 172) ((op_feed (t := t) (d := 30) (x := p0) hI (by omega) (by omega) (by omega)).imp (fun _ _ h => h.deep (by decide)) : RR t 30 172 _ v _) rfl hok hoa G cA E B0 ad)
set_option maxRecDepth 100000 in
theorem of_run {p0 p1 : Int} (hl : l.stackTraces = false) (hI : INV v) (hok : okS (sg t v)) (h0 : i32 p0) (h1 : i32 p1) : OP2 l G cA E B0 ad 175 256 [(0, p0), (0, p1)] t v nIS nIA := by
  have hoa : ∀ q ∈ ([(2, ((0 : Nat) : Int)), (0, p0), (0, p1)] : List AV), okA 82 q := oa_c (oa_r (by decide)) (oa_c (oa_i h0) (oa_c (oa_i h1) oa_n))
  have hpl : plainName (yn 175).cls = true := by decide +kernel
  by_cases c0 : v 0 6 = 0
  · have hx : (p0 < 0 ∨ 4000 < p0 ∨ p1 < 1 ∨ 12 < p1) → RR t 1475 256 [(2, 38), (0, p0), (0, p1)] v (fun _ v2 => v2 38 7 = 2 ∧ INV v2) := fun h => by
      have := op_run_x (t := t) (d := 1475) hI (Or.inr h)
      rw [if_pos c0] at this
      exact this
    by_cases c1 : p0 < 0
    · exact Or.inr ⟨ct_thr hl (y := 175) (pc1 := 28) (is := 97) (by decide) hpl rfl hok hoa rfl (th_175b c0 c1) XW_a (by decide) (by decide +kernel) (by decide +kernel) (by decide +kernel) (by decide +kernel) (by decide +kernel) (by decide), hx (Or.inl c1)⟩
    · by_cases c2 : 4000 < p0
      · exact Or.inr ⟨ct_thr hl (y := 175) (pc1 := 28) (is := 97) (by decide) hpl rfl hok hoa rfl (th_175c c0 c1 c2) XW_a (by decide) (by decide +kernel) (by decide +kernel) (by decide +kernel) (by decide +kernel) (by decide +kernel) (by decide), hx (Or.inr (Or.inl c2))⟩
      · by_cases c3 : p1 < 1
        · exact Or.inr ⟨ct_thr hl (y := 175) (pc1 := 49) (is := 99) (by decide) hpl rfl hok hoa rfl (th_175d c0 c1 c2 c3) XW_a (by decide) (by decide +kernel) (by decide +kernel) (by decide +kernel) (by decide +kernel) (by decide +kernel) (by decide), hx (Or.inr (Or.inr (Or.inl c3)))⟩
        · by_cases c4 : 12 < p1
          · exact Or.inr ⟨ct_thr hl (y := 175) (pc1 := 49) (is := 99) (by decide) hpl rfl hok hoa rfl (th_175e c0 c1 c2 c3 c4) XW_a (by decide) (by decide +kernel) (by decide +kernel) (by decide +kernel) (by decide +kernel) (by decide +kernel) (by decide), hx (Or.inr (Or.inr (Or.inr c4)))⟩
          · obtain ⟨z, rfl⟩ := Int.eq_ofNat_of_zero_le (show 0 ≤ p0 by omega)
            obtain ⟨dp, rfl⟩ := Int.eq_ofNat_of_zero_le (show 0 ≤ p1 by omega)
            exact Or.inl (Or.inl (met_xt (y := 175) (op_run (t := t) (D := 8) (d := 1475) hI c0 (by omega) (by omega) (by omega) (by decide) : RR t (8 + 22) 175 _ v _) rfl hok hoa G cA E B0 ad))
  · have hx : RR t 1475 256 [(2, 38), (0, p0), (0, p1)] v (fun _ v2 => v2 38 7 = 1 ∧ INV v2) := by
      have := op_run_x (t := t) (d := 1475) (a := p0) (b := p1) hI (Or.inl c0)
      rw [if_neg c0] at this
      exact this
    exact Or.inl (Or.inr ⟨ct_thr hl (y := 175) (pc1 := 7) (is := 94) (by decide) hpl rfl hok hoa rfl (th_175a c0) XW_s (by decide) (by decide +kernel) (by decide +kernel) (by decide +kernel) (by decide +kernel) (by decide +kernel) (by decide), hx⟩)
set_option maxRecDepth 100000 in
theorem of_told {p0 : Int} (hl : l.stackTraces = false) (hI : INV v) (hok : okS (sg t v)) (h0 : i32 p0) : OP2 l G cA E B0 ad 176 257 [(0, p0)] t v nIS nIA := by
  have hoa : ∀ q ∈ ([(2, ((0 : Nat) : Int)), (0, p0)] : List AV), okA 82 q := oa_c (oa_r (by decide)) (oa_c (oa_i h0) oa_n)
  have hpl : plainName (yn 176).cls = true := by decide +kernel
  have hdec : decode (bc 176) 1 = .ok (.invokevirtual 104, 3) := by decide +kernel
  by_cases h7 : v 0 7 = 0
  · refine Or.inl (Or.inr ⟨ct_nr (d := 29) hl (y := 176) (by decide) hpl rfl hok hoa rfl th_176 h7 hdec (by decide), ?_⟩)
    have := op_told_x (t := t) (d := 1473) (a := p0) hI (Or.inl h7)
    rw [if_pos h7] at this
    exact this
  · by_cases c : p0 < 0 ∨ 7 < p0
    · refine Or.inr ⟨ct_nrx (d := 29) hl (y := 176) (pc1 := 116) (is := 131) (by decide) hpl rfl hok hoa rfl th_176 h7 hdec (by decide) (th_176x c) XW_a (by decide) (by decide +kernel) (by decide +kernel) (by decide +kernel) (by decide +kernel) (by decide +kernel), ?_⟩
      have := op_told_x (t := t) (d := 1473) (a := p0) hI (Or.inr c)
      rw [if_neg h7] at this
      exact this
    · exact Or.inl (Or.inl (mr_nr (d := 29) (y := 176) (by decide) rfl hok hoa rfl rfl th_176 h7 hdec ((op_told (t := t) (d := 28) hI h7 (by omega) (by omega)).imp (fun _ _ h => h.2.deep (by decide))) G cA E B0 ad))
set_option maxRecDepth 100000 in
theorem of_letter {p0 : Int} (hl : l.stackTraces = false) (hI : INV v) (hok : okS (sg t v)) (h0 : i32 p0) : OP1 l G cA E B0 ad 177 259 [(0, p0)] t v nIS := by
  have hoa : ∀ q ∈ ([(2, ((0 : Nat) : Int)), (0, p0)] : List AV), okA 82 q := oa_c (oa_r (by decide)) (oa_c (oa_i h0) oa_n)
  have hpl : plainName (yn 177).cls = true := by decide +kernel
  have hdec : decode (bc 177) 1 = .ok (.invokevirtual 104, 3) := by decide +kernel
  by_cases h7 : v 0 7 = 0
  · exact Or.inr ⟨ct_nr (d := 29) hl (y := 177) (by decide) hpl rfl hok hoa rfl th_177 h7 hdec (by decide), op_letter_x hI h7⟩
  · exact Or.inl (mr_nr (d := 29) (y := 177) (by decide) rfl hok hoa rfl rfl th_177 h7 hdec ((op_letter (t := t) (d := 29) hI h7).imp (fun _ _ h => h.2.deep (by decide))) G cA E B0 ad)
set_option maxRecDepth 100000 in
theorem of_whose {p0 : Int} (hl : l.stackTraces = false) (hI : INV v) (hok : okS (sg t v)) (h0 : i32 p0) : OP2 l G cA E B0 ad 178 260 [(0, p0)] t v nIS nIB := by
  have hoa : ∀ q ∈ ([(2, ((0 : Nat) : Int)), (0, p0)] : List AV), okA 82 q := oa_c (oa_r (by decide)) (oa_c (oa_i h0) oa_n)
  have hpl : plainName (yn 178).cls = true := by decide +kernel
  have hdec : decode (bc 178) 1 = .ok (.invokevirtual 104, 3) := by decide +kernel
  by_cases h7 : v 0 7 = 0
  · refine Or.inl (Or.inr ⟨ct_nr (d := 29) hl (y := 178) (by decide) hpl rfl hok hoa rfl th_178 h7 hdec (by decide), ?_⟩)
    have := op_whose_x (t := t) (d := 1475) (a := p0) hI (Or.inl h7)
    rw [if_pos h7] at this
    exact this
  · by_cases c1 : p0 < 0
    · refine Or.inr ⟨ct_nrx (d := 29) hl (y := 178) (pc1 := 19) (is := 142) (by decide) hpl rfl hok hoa rfl th_178 h7 hdec (by decide) (th_178a c1) XW_b (by decide) (by decide +kernel) (by decide +kernel) (by decide +kernel) (by decide +kernel) (by decide +kernel), ?_⟩
      have := op_whose_x (t := t) (d := 1475) (a := p0) hI (Or.inr (Or.inl c1))
      rw [if_neg h7] at this
      exact this
    · by_cases c2 : p0 < v 15 6
      · exact Or.inl (Or.inl (mr_nr (d := 29) (y := 178) (by decide) rfl hok hoa rfl rfl th_178 h7 hdec ((op_whose (t := t) (d := 28) hI h7 (by omega) c2).imp (fun _ _ h => h.2.deep (by decide))) G cA E B0 ad))
      · refine Or.inr ⟨ct_nrx (d := 29) hl (y := 178) (pc1 := 19) (is := 142) (by decide) hpl rfl hok hoa rfl th_178 h7 hdec (by decide) (th_178b (d := 29) c1 c2) XW_b (by decide) (by decide +kernel) (by decide +kernel) (by decide +kernel) (by decide +kernel) (by decide +kernel), ?_⟩
        have := op_whose_x (t := t) (d := 1475) (a := p0) hI (Or.inr (Or.inr (Int.not_lt.mp c2)))
        rw [if_neg h7] at this
        exact this
set_option maxRecDepth 100000 in
theorem of_wrong (hl : l.stackTraces = false) (hI : INV v) (hok : okS (sg t v)) : OP1 l G cA E B0 ad 179 261 [] t v nIS := by
  have hoa : ∀ q ∈ ([(2, ((0 : Nat) : Int))] : List AV), okA 82 q := oa_c (oa_r (by decide)) oa_n
  have hpl : plainName (yn 179).cls = true := by decide +kernel
  have hdec : decode (bc 179) 1 = .ok (.invokevirtual 104, 3) := by decide +kernel
  by_cases h7 : v 0 7 = 0
  · exact Or.inr ⟨ct_nr (d := 29) hl (y := 179) (by decide) hpl rfl hok hoa rfl th_179 h7 hdec (by decide), op_wrong_x hI h7⟩
  · exact Or.inl (mr_nr (d := 29) (y := 179) (by decide) rfl hok hoa rfl rfl th_179 h7 hdec ((op_wrong (t := t) (d := 29) hI h7).imp (fun _ _ h => h.2.deep (by decide))) G cA E B0 ad)
set_option maxRecDepth 100000 in
theorem of_read (hI : INV v) (hok : okS (sg t v)) : ∃ t9, MR l G cA E B0 ad 700 173 [(2, ((0 : Nat) : Int))] t t9 v (fun b v1 => RR t9 1475 229 [(2, ((38 : Nat) : Int))] v1 (fun b' v2 => b' = b ∧ v2 38 7 = 0 ∧ INV v2)) := by
  obtain ⟨t9, -, h⟩ := op_read (t := t) (d := 697) (d' := 1475) hI (by decide) (by decide)
  obtain ⟨x, v1, h1, h2⟩ := h
  have h9 : XT t t9 700 173 0 (entL 173 [(2, ((0 : Nat) : Int))]) [] v (fun b v1 => RR t9 1475 229 [(2, ((38 : Nat) : Int))] v1 (fun b' v2 => b' = b ∧ v2 38 7 = 0 ∧ INV v2)) := ⟨x, v1, h1, h2 t9⟩
  exact ⟨t9, met_xt h9 rfl hok (oa_c (oa_r (by decide)) oa_n) G cA E B0 ad⟩
set_option maxRecDepth 100000 in
theorem of_place (hI : INV v) (hok : okS (sg t v)) : MR l G cA E B0 ad 30 174 [(2, ((0 : Nat) : Int))] t t v (fun b v1 => RR t 1475 230 [(2, ((38 : Nat) : Int))] v1 (fun b' v2 => b' = b ∧ v2 38 7 = 0 ∧ INV v2)) :=
  met_xt (y := 174) ((op_place (t := t) (d := 29) hI).imp (fun _ _ h => h.deep (by decide)) : RR t (29 + 1) 174 _ v _) rfl hok (oa_c (oa_r (by decide)) oa_n) G cA E B0 ad
/-- the reference's own method, as a contract -/
theorem of_ref {d y r : Nat} {as : List AV} {P : Int → Mem → Prop} (h : RR t d y ((2, (r : Int)) :: as) v P) (ht : ((2, (r : Int)) :: as).map Prod.fst = (mi y).2.1) (hok : okS (sg t v)) (hr : r < 82) (hoa : ∀ q ∈ as, okA 82 q) : MR l G cA E B0 ad d y ((2, (r : Int)) :: as) t t v P := met_xt (h : XT t t d y 0 _ [] v P) ht hok (oa_c (oa_r hr) hoa) G cA E B0 ad
end OPS
