/-! The class's machine: call and return. -/
/-- FUNCTION ci: np PARAMETERS, sl rows, its first act -/
def fnAt (v0 : Mem) (ci np sl en : Nat) : Prop := (∃ N : Nat, v0 1 6 = N ∧ ci < N ∧ N ≤ 20) ∧ v0 3 ci = (np : Nat) ∧ v0 7 ci = (sl : Nat) ∧ v0 6 ci = (en : Nat) ∧ np ≤ sl ∧ sl ≤ 30
theorem fnAt.get {v0 v : Mem} {ci np sl en : Nat} (h : fnAt v0 ci np sl en) (hs : CMs v0 v) : f_25 (ci : Int) v = (np : Int) ∧ f_29 (ci : Int) v = (sl : Int) ∧ f_28 (ci : Int) v = (en : Int) := by
  obtain ⟨⟨N, n1, n2, n3⟩, h1, h2, h3, -, -⟩ := h
  have c1 := hs 1 (by decide) (by omega) (by omega)
  have c3 := hs 3 (by decide) (by omega) (by omega)
  have c6 := hs 6 (by decide) (by omega) (by omega)
  have c7 := hs 7 (by decide) (by omega) (by omega)
  unfold f_25 f_29 f_28
  rw [c1, c3, c6, c7, n1, if_neg (by omega), if_pos (by omega), if_pos (by omega), if_neg (by omega), if_pos (by omega), if_pos (by omega), if_neg (by omega), if_pos (by omega), if_pos (by omega), Int.toNat_natCast]
  exact ⟨h1, h2, h3⟩
theorem zr_len : ∀ m : Nat, (zr m).length = m := by
  intro m
  induction m with
  | zero => rfl
  | succ m ih => show (zr m).length + 1 = m + 1; rw [ih]
theorem zr_mem {r : Rw} : ∀ m : Nat, r ∈ zr m → r = (-1, 0, 0) := by
  intro m
  induction m with
  | zero => intro h; cases h
  | succ m ih =>
    intro h
    rcases List.mem_cons.mp h with e | e
    · exact e
    · exact ih e
/-- a frame more -/
theorem CM.frame {v0 v : Mem} {n z dp pc bs bk : Nat} {FB : List (Nat × Nat)} {S : List Rw} {ρ : Rho} {x y w : Int} (h : CM v0 n z dp pc FB S ρ v) (hl : FB.length < 12) (hx : x = (bk : Nat)) (hy : y = (bs : Nat)) (hw : w = ((FB.length + 1 : Nat) : Int)) : CM v0 n z dp pc (FB ++ [(bs, bk)]) S ρ (up (up (up v 36 FB.length x) 37 FB.length y) 31 7 w) := by
  obtain ⟨q1, q2, q3, ⟨a1, a2, a3, a4, a5, a6, a7⟩, ⟨b1, b2, b3⟩, h3, h4, h5⟩ := h
  have ll : (FB ++ [(bs, bk)]).length = FB.length + 1 := by rw [List.length_append]; rfl
  have e31 : ∀ j, j ≠ 7 → up (up (up v 36 FB.length x) 37 FB.length y) 31 7 w 31 j = v 31 j := fun j hj => by rw [up_nk hj, up_ne (by decide), up_ne (by decide)]
  have ec : ∀ c, c ≠ 31 → c ≠ 36 → c ≠ 37 → up (up (up v 36 FB.length x) 37 FB.length y) 31 7 w c = v c := fun c c1 c2 c3 => by rw [up_ne c1, up_ne c3, up_ne c2]
  refine ⟨q1.cells (fun c c1 c2 => ec c (by omega) (by omega) (by omega)) (fun c c1 c2 => ec c (by omega) (by omega) (by omega)), q2, q3, ⟨?_, ?_, ?_, ?_, ?_, ?_, ?_⟩, ⟨b1, b2, by rw [ll]; omega⟩, fun i hi => ?_, h4.same (ec 14 (by decide) (by decide) (by decide)), fun c c1 c2 c3 => by rw [ec c (by omega) (by omega) (by omega)]; exact h5 c c1 c2 c3⟩
  · rw [up_k, ll, hw]
  · rw [e31 8 (by decide)]; exact a2
  · rw [e31 9 (by decide)]; exact a3
  · rw [e31 10 (by decide)]; exact a4
  · rw [e31 11 (by decide)]; exact a5
  · rw [e31 12 (by decide)]; exact a6
  · rw [e31 13 (by decide)]; exact a7
  · rw [ll] at hi
    by_cases c : i = FB.length
    · rw [c]
      refine ⟨?_, ?_⟩
      · rw [up_ne (by decide), up_k, gd2]; exact hy
      · rw [up_ne (by decide), up_ne (by decide), up_k, gd2]; exact hx
    · refine ⟨?_, ?_⟩
      · rw [up_ne (by decide), up_nk c, up_ne (by decide), gd1 (by omega)]; exact (h3 i (by omega)).1
      · rw [up_ne (by decide), up_ne (by decide), up_nk c, gd1 (by omega)]; exact (h3 i (by omega)).2
theorem cl_rr {t : Int} {d : Nat} {v0 v : Mem} {Q : Int → Mem → Prop} {n z dp pc ci np sl en : Nat} {FB : List (Nat × Nat)} {S : List Rw} {ρ : Rho} (k : CM v0 n z dp pc FB S ρ v) (hf : fnAt v0 ci np sl en) (hnp : np ≤ S.length) (hl : S.length + (sl - np) ≤ 1440) (hdp : dp ≤ 12) (h1 : dp ≤ FB.length → ∀ v', CE v0 z 3 0 ρ v' → Q 0 v') (h2 : FB.length < dp → rN ρ < 20000 → ∀ v', CM v0 n z dp en (FB ++ [(S.length - np, pc)]) (S ++ zr (sl - np)) (wN ρ (rN ρ + 1)) v' → Q 0 v') (h3 : FB.length < dp → rN ρ = 20000 → ∀ v', CE v0 z 4 0 ρ v' → Q 0 v') : RR t (d + 4) 61 [(2, 31), (0, (ci : Int))] v Q := by
  have a1 := k.2.2.2.1.1
  have a2 := k.2.2.2.1.2.1
  have a3 := k.2.2.2.1.2.2.1
  have hN := k.2.2.2.2.1.1
  have q4 := hf.2.2.2.2
  refine s_61 (d := d + 2) ?_
  rw [a1, a2, a3, k.1.1.1, (hf.get k.2.2.2.2.2.2.2).1, show f_275 0 (np : Int) v = (np : Int) from by unfold f_275; split <;> omega, Int.toNat_natCast, wNat (k := S.length - np) (a := ((S.length : Nat) : Int) - (np : Int)) (by omega) (by have := k.1.1.2.1; omega)]
  refine ⟨fun c1 => ⟨fun c => absurd c (by omega), fun _ => ⟨fun _ => ?_, fun c => absurd (by omega) c⟩⟩, fun c1 => h1 (by omega) _ k.ends⟩
  rw [wNat (k := FB.length + 1) (a := ((FB.length : Nat) : Int) + 1) (by omega) (by omega)]
  have kf := k.frame (bs := S.length - np) (bk := pc) (x := ((pc : Nat) : Int)) (y := ((S.length - np : Nat) : Int)) (w := ((FB.length + 1 : Nat) : Int)) (by omega) rfl rfl rfl
  rw [(hf.get kf.2.2.2.2.2.2.2).2.1, wNat (k := sl - np) (a := (sl : Int) - (np : Int)) (by omega) (by omega)]
  refine w_148 (VH.res (d := d + 1) (N := sl - np) (by omega) (sl - np) 0 S _ (by omega) kf.1 (by omega) (fun v4 g1 g2 => ?_))
  have k4 : CM v0 n z dp pc (FB ++ [(S.length - np, pc)]) (S ++ zr (sl - np)) ρ v4 := kf.add g1 g2 (fun r hr => by rw [zr_mem _ hr]; exact rok.int (by decide) (by decide))
  rw [(hf.get k4.2.2.2.2.2.2.2).2.2]
  have k5 := k4.at (pc' := en)
  by_cases c : rN ρ < 20000
  · exact h2 (by omega) c _ (m58_1 (m := 1) k5 (by omega)).1
  · have e : rN ρ = 20000 := by omega
    have q := m58_2 (m := 1) k5 (by omega)
    rw [← e] at q
    exact h3 (by omega) e _ q
theorem at_call {t : Int} {d : Nat} {v0 v : Mem} {Q : Int → Mem → Prop} {n z dp pc ci np sl en : Nat} {FB : List (Nat × Nat)} {S : List Rw} {ρ : Rho} {s : Int} (hc : CM v0 n z dp pc FB S ρ v) (ha : actAt v0 pc 5 (ci : Int) s) (hf : fnAt v0 ci np sl en) (hnp : np ≤ S.length) (hl : S.length + (sl - np) ≤ 1440) (hdp : dp ≤ 12) (h1 : dp ≤ FB.length → ∀ v', CE v0 z 3 0 ρ v' → Q 0 v') (h2 : FB.length < dp → rN ρ < 20000 → ∀ v', CM v0 n z dp en (FB ++ [(S.length - np, pc + 1)]) (S ++ zr (sl - np)) (wN ρ (rN ρ + 1)) v' → Q 0 v') (h3 : FB.length < dp → rN ρ = 20000 → ∀ v', CE v0 z 4 0 ρ v' → Q 0 v') : RR t (d + 5) 56 [(2, 31)] v Q := ac_5 hc ha (fun v1 k => cl_rr (d := d) k hf hnp hl hdp h1 h2 h3)
theorem at_ret {t : Int} {d : Nat} {v0 v : Mem} {Q : Int → Mem → Prop} {n z dp pc bs bk : Nat} {FB : List (Nat × Nat)} {S T : List Rw} {r : Rw} {ρ : Rho} {f s : Int} (hc : CM v0 n z dp pc (FB ++ [(bs, bk)]) (S ++ (T ++ [r])) ρ v) (ha : actAt v0 pc 6 f s) (hb : S.length = bs) (h1 : 1 ≤ FB.length → ∀ v', CM v0 n z dp bk FB (S ++ [r]) (wH ρ (gc (S ++ [r]) z0 (rH ρ))) v' → Q 0 v') (h2 : FB.length = 0 → ∀ v', CE v0 z 0 r.2.1 (wH ρ (gc (S ++ [r]) z0 (rH ρ))) v' → Q 0 v') : RR t (d + 5) 56 [(2, 31)] v Q := ac_6 hc ha (fun v1 k => by
  obtain ⟨e0, e1, e2⟩ : f_139 (w32 ((((S ++ (T ++ [r])).length : Nat) : Int) - 1)) v1 = r.1 ∧ f_140 (w32 ((((S ++ (T ++ [r])).length : Nat) : Int) - 1)) v1 = r.2.1 ∧ f_141 (w32 ((((S ++ (T ++ [r])).length : Nat) : Int) - 1)) v1 = r.2.2 := by
    have q := rdT (S := S) (T := T ++ [r]) (k := T.length) (jj := 1) k.1.1 (by rw [List.length_append]; exact Nat.lt_succ_self _) (by rw [List.length_append]; show (1 : Int) = ((T.length + 1 - T.length : Nat) : Int); omega)
    rw [gd2] at q
    exact q
  have hr : r ∈ S ++ (T ++ [r]) := List.mem_append.mpr (Or.inr (List.mem_append.mpr (Or.inr List.mem_cons_self)))
  have hL := k.1.1.2.1
  have lS : (S ++ (T ++ [r])).length = S.length + (T ++ [r]).length := List.length_append
  have lT : (T ++ [r]).length = T.length + 1 := by rw [List.length_append]; rfl
  refine s_62 (d := d + 2) ?_
  rw [k.1.1.1, e0, e1, e2, k.2.2.2.base.1, wNat (k := (T ++ [r]).length) (a := (((S ++ (T ++ [r])).length : Nat) : Int) - (bs : Int)) (by omega) (by omega)]
  refine k.repl (T := T ++ [r]) (by omega) rfl (k.2.2.1 r hr) (fun v2 k2 => ?_)
  refine VH.look k2.1 k2.2.1 (fun v3 g1 g2 => ?_)
  have k3 : CM v0 n z dp (pc + 1) (FB ++ [(bs, bk)]) (S ++ [(r.1, r.2.1, r.2.2)]) (wH ρ (gc (S ++ [(r.1, r.2.1, r.2.2)]) z0 (rH ρ))) v3 := ⟨g1, k2.2.1, k2.2.2.1, k2.2.2.2.vf g2⟩
  have k3 : CM v0 n z dp (pc + 1) (FB ++ [(bs, bk)]) (S ++ [r]) (wH ρ (gc (S ++ [r]) z0 (rH ρ))) v3 := k3
  have hbk := k3.2.2.2.base.2
  have q1 := k3.1
  have q2 := k3.2.1
  obtain ⟨⟨a1, a2, a3, a4, a5, a6, a7⟩, ⟨b1, b2, b3⟩, h3, h4, h5⟩ := k3.2.2.2
  have ll : (FB ++ [(bs, bk)]).length = FB.length + 1 := by rw [List.length_append]; rfl
  rw [ll] at a1 b3
  rw [a1, wNat (k := FB.length) (a := ((FB.length + 1 : Nat) : Int) - 1) (by omega) (by omega)]
  have fin : ∀ w : Int, FB.length = 0 → w = r.2.1 → Q 0 (up (up (up v3 31 7 ((FB.length : Nat) : Int)) 31 12 w) 31 13 0) := fun w hF hw => h2 hF _ ⟨⟨S ++ [r], q1.u31.u31.u31, q2⟩, ⟨by rw [up_nk (by decide), up_nk (by decide), up_nk (by decide)]; exact a4, by rw [up_nk (by decide), up_nk (by decide), up_nk (by decide)]; exact a5, by rw [up_nk (by decide), up_k, hw], up_k⟩, b2, h4.same (by rw [up_ne (by decide), up_ne (by decide), up_ne (by decide)]), h5.u31.u31.u31⟩
  refine ⟨fun c => ⟨fun _ => ?_, fun c2 => absurd (by omega) c2⟩, fun c => ?_⟩
  · rw [Int.toNat_natCast, hbk]
    refine h1 (by omega) _ ⟨q1.u31.u31, q2, k3.2.2.1, ⟨?_, ?_, up_k, ?_, ?_, ?_, ?_⟩, ⟨b1, b2, by omega⟩, fun i hi => ?_, h4.same (by rw [up_ne (by decide), up_ne (by decide)]), h5.u31.u31⟩
    · rw [up_nk (by decide), up_k]
    · rw [up_nk (by decide), up_nk (by decide)]; exact a2
    · rw [up_nk (by decide), up_nk (by decide)]; exact a4
    · rw [up_nk (by decide), up_nk (by decide)]; exact a5
    · rw [up_nk (by decide), up_nk (by decide)]; exact a6
    · rw [up_nk (by decide), up_nk (by decide)]; exact a7
    · rw [up_ne (by decide), up_ne (by decide), up_ne (by decide), up_ne (by decide)]
      have q := h3 i (by rw [ll]; omega)
      rw [gd1 hi] at q
      exact q
  · refine fin _ (by omega) ?_
    have q5 : VR (up v3 31 7 ((FB.length : Nat) : Int)) (S ++ [r]) := q1.u31.1
    rw [q1.1.1]
    exact (rdT (T := [r]) (k := 0) (jj := 1) q5 (Nat.lt_succ_self _) rfl).2.1)
