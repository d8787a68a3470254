/-! The class does what an E says: and, or; parts; len, digits, sign, find; what is handed over; calls. -/
theorem se_settle {t : Int} {D : Nat} {v0 : Mem} {u : Nat → Int} {n z dp : Nat} {FB : List (Nat × Nat)} {G : Fn} {cl : XC} {M B w : Nat} {L : Sc} {e f : Jvm.Term} (hM : M ≤ 1400) (hcl : ∀ ci S ρ, rN ρ ≤ 20000 → okE 1 0 ρ (cl ci S ρ)) (he : SE t D v0 u n z dp FB G cl M B L 0 e) (hf : SE t D v0 u n z dp FB G cl M B L 0 f) (we : wfE (kd u n) false e) (wf : wfE (kd u n) false f) (hl1 : lvl (kd u n w) ≤ 1) : SE t D v0 u n z dp FB G cl M B L 0 (.add (.arg w) (.sub e f)) := by
  intro S ρ v pc i a Q hB hT hat hlen k h1 h2 hK
  have hT : S.length + max (tdE 0 e) (1 + tdE 0 f) ≤ M + 0 := hT
  have hac : coE u n G L (.add (.arg w) (.sub e f)) pc = coE u n G L e pc ++ ((4, ((pc + (coE u n G L e pc).length + 1 + (coE u n G L f (pc + (coE u n G L e pc).length + 1)).length + 1 : Nat) : Int), if kd u n w = 20 then 1 else 0) :: (coE u n G L f (pc + (coE u n G L e pc).length + 1) ++ [(14, 0, 0)])) := by
    show (if lvl (kd u n w) ≤ 1 then _ else _) = _
    rw [if_pos hl1]
  have hco : (coE u n G L (.add (.arg w) (.sub e f)) pc).length = (coE u n G L e pc).length + 1 + (coE u n G L f (pc + (coE u n G L e pc).length + 1)).length + 1 := by
    rw [hac, List.length_append, List.length_cons, List.length_append]
    show _ + (_ + 1 + 1) = _
    omega
  rw [hac] at hat
  obtain ⟨at1, at23⟩ := hat.app
  have at2 := at23.act
  obtain ⟨at3, at4⟩ := at23.tl.app
  have hev : evE u n G (v0 14) z cl B L (.add (.arg w) (.sub e f)) S ρ = bE (evE u n G (v0 14) z cl B L e S ρ) (fun q ρ1 => if tr (g2 q 0).2.1 = (if kd u n w = 20 then 1 else 0) then rtE S (-1, tr (g2 q 0).2.1, 0) ρ1 else bE (evE u n G (v0 14) z cl B L f S (wH ρ1 (gc S z0 (rH ρ1)))) (fun q2 ρ2 => rtE S (-1, tr (g2 q2 0).2.1, 0) ρ2)) := by
    show (if lvl (kd u n w) ≤ 1 then _ else _) = _
    rw [if_pos hl1]
  rw [hev] at hK
  have hK := hK.cast (pc' := pc + (coE u n G L e pc).length + 1 + (coE u n G L f (pc + (coE u n G L e pc).length + 1)).length + 1) (a' := a + (coE u n G L e pc).length + 1 + (coE u n G L f (pc + (coE u n G L e pc).length + 1)).length + 1) (by rw [hco]; omega) (by rw [hco]; omega)
  refine he S ρ v pc i a Q hB (by omega) at1 (by omega) k h1 h2 (hK.bnd (fun q ρ1 er hk v1 i1 k1 c1 c2 => ?_))
  have ok := (evE_ok (tx := v0 14) (z := z) (B := B) (L := L) (G := G) hcl _ e (Nat.lt_succ_self _)).1 we S ρ k.2.2.2.2.1.1
  rw [er] at ok
  obtain ⟨x, hx⟩ := one1' ok.1
  subst hx
  have hk : KX t D v0 n z dp (pc + (coE u n G L e pc).length + 1 + (coE u n G L f (pc + (coE u n G L e pc).length + 1)).length + 1) FB S (a + (coE u n G L e pc).length + 1 + (coE u n G L f (pc + (coE u n G L e pc).length + 1)).length + 1) Q (if tr x.2.1 = (if kd u n w = 20 then 1 else 0) then rtE S (-1, tr x.2.1, 0) ρ1 else bE (evE u n G (v0 14) z cl B L f S (wH ρ1 (gc S z0 (rH ρ1)))) (fun q2 ρ2 => rtE S (-1, tr (g2 q2 0).2.1, 0) ρ2)) := hk
  refine act_c k1 c2 (by omega) (at_settle k1 (by omega) at2 (fun e0 v' k' => ?_) (fun e0 v' k' => ?_))
  · rw [if_pos e0] at hk
    exact hk.ret k' (by omega) (by omega)
  · rw [if_neg e0] at hk
    refine hf S (wH ρ1 (gc S z0 (rH ρ1))) v' _ (i1 + 1) (a + (coE u n G L e pc).length + 1) Q hB (by omega) at3 (by omega) k' (by show rK ρ1 ≤ _; omega) (by show ((i1 + 1 : Nat) : Int) ≤ 420 * ((rN ρ1 : Nat) : Int) + _; omega) (hk.bnd (fun q2 ρ2 er2 hk2 v2 i2 k2 d1 d2 => ?_))
    have ok2 := (evE_ok (tx := v0 14) (z := z) (B := B) (L := L) (G := G) hcl _ f (Nat.lt_succ_self _)).1 wf S (wH ρ1 (gc S z0 (rH ρ1))) k'.2.2.2.2.1.1
    rw [er2] at ok2
    obtain ⟨y, hy⟩ := one1' ok2.1
    subst hy
    have hk2 : KX t D v0 n z dp (pc + (coE u n G L e pc).length + 1 + (coE u n G L f (pc + (coE u n G L e pc).length + 1)).length + 1) FB S (a + (coE u n G L e pc).length + 1 + (coE u n G L f (pc + (coE u n G L e pc).length + 1)).length + 1) Q (rtE S (-1, tr y.2.1, 0) ρ2) := hk2
    exact fin_ret k2 hk2 d1 d2 (by omega) (fun h => at_truth k2 (by omega) at4.act h)
theorem se_rem {t : Int} {D : Nat} {v0 : Mem} {u : Nat → Int} {n z dp : Nat} {FB : List (Nat × Nat)} {G : Fn} {cl : XC} {M B : Nat} {L : Sc} {e f g : Jvm.Term} (hn : n ≤ 3000) (hM : M ≤ 1400) (hcl : ∀ ci S ρ, rN ρ ≤ 20000 → okE 1 0 ρ (cl ci S ρ)) (he : SE t D v0 u n z dp FB G cl M B L 0 e) (hf : SE t D v0 u n z dp FB G cl M B L 0 f) (hg : SE t D v0 u n z dp FB G cl M B L 0 g) (we : wfE (kd u n) false e) (wf : wfE (kd u n) false f) (wg : wfE (kd u n) false g) : SE t D v0 u n z dp FB G cl M B L 0 (.rem e (.sub f g)) := by
  intro S ρ v pc i a Q hB hT hat hlen k h1 h2 hK
  have hT : S.length + max (tdE 0 e) (max (1 + tdE 0 f) (2 + tdE 0 g)) ≤ M + 0 := hT
  generalize hle : (coE u n G L e pc).length = le at *
  generalize hlf : (coE u n G L f (pc + le)).length = lf at *
  have hac : coE u n G L (.rem e (.sub f g)) pc = coE u n G L e pc ++ ((coE u n G L f (pc + le) ++ coE u n G L g (pc + le + lf)) ++ [(21, 0, 0)]) := by
    show coE u n G L e pc ++ ((coE u n G L f (pc + (coE u n G L e pc).length) ++ coE u n G L g (pc + (coE u n G L e pc).length + (coE u n G L f (pc + (coE u n G L e pc).length)).length)) ++ [(21, 0, 0)]) = _
    rw [hle, hlf]
  generalize hlg : (coE u n G L g (pc + le + lf)).length = lg at *
  have hco : (coE u n G L (.rem e (.sub f g)) pc).length = le + lf + lg + 1 := by
    rw [hac, List.length_append, List.length_append, List.length_append, hle, hlf, hlg]
    show _ + (_ + 1) = _
    omega
  rw [hac] at hat
  obtain ⟨at1, at23⟩ := hat.app
  obtain ⟨at2, at3⟩ := at23.app
  obtain ⟨at4, at5⟩ := at2.app
  rw [List.length_append, hle, hlf, hlg] at at3
  rw [hle] at at4
  rw [hle, hlf] at at5
  rw [hco] at hK hlen
  have hK : KX t D v0 n z dp (pc + le + lf + lg + 1) FB S (a + le + lf + lg + 1) Q (bE (evE u n G (v0 14) z cl B L e S ρ) (fun q ρ1 => bE (evE u n G (v0 14) z cl B L (.sub f g) (S ++ q) ρ1) (fun q2 ρ2 => rtE S (ptR (g2 q 0) (g2 q2 0).2.1 (g2 q2 1).2.1) ρ2))) := hK.cast (by omega) (by omega)
  refine he S ρ v pc i a Q hB (by omega) at1 (by omega) k h1 h2 (hK.bnd (fun q ρ1 er hk v1 i1 k1 c1 c2 => ?_))
  have ok := (evE_ok (tx := v0 14) (z := z) (B := B) (L := L) (G := G) hcl _ e (Nat.lt_succ_self _)).1 we S ρ k.2.2.2.2.1.1
  rw [er] at ok
  obtain ⟨x, hx⟩ := one1' ok.1
  subst hx
  rw [bE_pair] at hk
  rw [hle] at k1 c2
  have ll : (S ++ [x]).length = S.length + 1 := by rw [List.length_append]; rfl
  subst hlf hlg
  refine se_two hcl hf hg wf wg (by omega) (by omega) (by omega) at4 at5 (by omega) k1 c1 c2 hk (fun y w ρ2 v2 i2 hk2 k2 d1 d2 => ?_)
  rw [List.append_assoc] at k2
  have hk2 : KX t D v0 n z dp (pc + le + (coE u n G L f (pc + le)).length + (coE u n G L g (pc + le + (coE u n G L f (pc + le)).length)).length + 1) FB S (a + le + (coE u n G L f (pc + le)).length + (coE u n G L g (pc + le + (coE u n G L f (pc + le)).length)).length + 1) Q (rtE S (ptR x y.2.1 w.2.1) ρ2) := hk2
  have at3 := at3.act
  rw [show pc + le + ((coE u n G L f (pc + le)).length + (coE u n G L g (pc + le + (coE u n G L f (pc + le)).length)).length) = pc + le + (coE u n G L f (pc + le)).length + (coE u n G L g (pc + le + (coE u n G L f (pc + le)).length)).length from by omega] at at3
  exact fin_ret k2 hk2 d1 d2 (by omega) (fun h => at_part hn k2 (by omega) at3 h)
theorem se_one {t : Int} {D : Nat} {v0 : Mem} {u : Nat → Int} {n z dp : Nat} {FB : List (Nat × Nat)} {G : Fn} {cl : XC} {M B w : Nat} {L : Sc} {e : Jvm.Term} (hn : n ≤ 3000) (hM : M ≤ 1400) (hcl : ∀ ci S ρ, rN ρ ≤ 20000 → okE 1 0 ρ (cl ci S ρ)) (he : SE t D v0 u n z dp FB G cl M B L 0 e) (we : wfE (kd u n) false e) : SE t D v0 u n z dp FB G cl M B L 0 (.op2 .iand (.arg w) e) := by
  intro S ρ v pc i a Q hB hT hat hlen k h1 h2 hK
  have hT : S.length + tdE 0 e ≤ M + 0 := hT
  have hco : (coE u n G L (.op2 .iand (.arg w) e) pc).length = (coE u n G L e pc).length + 1 := by
    show (coE u n G L e pc ++ [_]).length = _
    rw [List.length_append]; rfl
  have hat : AtK v0 pc (coE u n G L e pc ++ [(oneA (kd u n w), 0, 0)]) := hat
  obtain ⟨at1, at2⟩ := hat.app
  have hK : KX t D v0 n z dp (pc + (coE u n G L e pc).length + 1) FB S (a + (coE u n G L e pc).length + 1) Q (bE (evE u n G (v0 14) z cl B L e S ρ) (fun q ρ1 => oneE z (kd u n w) S (g2 q 0) ρ1)) := hK.cast (by rw [hco]; omega) (by rw [hco]; omega)
  refine he S ρ v pc i a Q hB hT at1 (by omega) k h1 h2 (hK.bnd (fun q ρ1 er hk v1 i1 k1 c1 c2 => ?_))
  have ok := (evE_ok (tx := v0 14) (z := z) (B := B) (L := L) (G := G) hcl _ e (Nat.lt_succ_self _)).1 we S ρ k.2.2.2.2.1.1
  rw [er] at ok
  obtain ⟨x, hx⟩ := one1' ok.1
  subst hx
  have hN := k1.2.2.2.2.1.1
  have hk : KX t D v0 n z dp (pc + (coE u n G L e pc).length + 1) FB S (a + (coE u n G L e pc).length + 1) Q (oneE z (kd u n w) S x ρ1) := hk
  unfold oneE at hk
  unfold oneA at at2
  by_cases g1 : kd u n w = 18
  · rw [if_pos g1] at hk at2
    exact fin_ret k1 hk c1 c2 (by omega) (fun h => at_len hn k1 (by omega) at2.act h)
  · rw [if_neg g1] at hk at2
    by_cases g2 : kd u n w = 11
    · rw [if_pos g2] at hk at2
      exact act_c k1 c2 (by omega) (at_digits hn k1 (by omega) (by omega) at2.act (fun e2 v' c' => hk.mk0 e2 c') (fun y' e2 v' k' => hk.mk1 e2 k' (by omega) (by omega)))
    · rw [if_neg g2] at hk at2
      exact act_c k1 c2 (by omega) (at_sign k1 (by omega) (by omega) at2.act (fun e2 v' c' => hk.mk0 e2 c') (fun y' e2 v' k' => hk.mk1 e2 k' (by omega) (by omega)))
theorem se_find {t : Int} {D : Nat} {v0 : Mem} {u : Nat → Int} {n z dp : Nat} {FB : List (Nat × Nat)} {G : Fn} {cl : XC} {M B : Nat} {L : Sc} {w e f : Jvm.Term} (hn : n ≤ 3000) (hM : M ≤ 1400) (hcl : ∀ ci S ρ, rN ρ ≤ 20000 → okE 1 0 ρ (cl ci S ρ)) (he : SE t D v0 u n z dp FB G cl M B L 0 e) (hf : SE t D v0 u n z dp FB G cl M B L 0 f) (we : wfE (kd u n) false e) (wf : wfE (kd u n) false f) : SE t D v0 u n z dp FB G cl M B L 0 (.op2 .ior w (.sub e f)) := by
  intro S ρ v pc i a Q hB hT hat hlen k h1 h2 hK
  have hT : S.length + max (tdE 0 e) (1 + tdE 0 f) ≤ M + 0 := hT
  have hco : (coE u n G L (.op2 .ior w (.sub e f)) pc).length = (coE u n G L e pc).length + (coE u n G L f (pc + (coE u n G L e pc).length)).length + 1 := by
    show ((coE u n G L e pc ++ coE u n G L f (pc + (coE u n G L e pc).length)) ++ [_]).length = _
    rw [List.length_append, List.length_append]; rfl
  have hat : AtK v0 pc ((coE u n G L e pc ++ coE u n G L f (pc + (coE u n G L e pc).length)) ++ [(23, 0, 0)]) := hat
  obtain ⟨at12, at3⟩ := hat.app
  obtain ⟨at1, at2⟩ := at12.app
  have at3 := at3.act
  rw [List.length_append, ← Nat.add_assoc] at at3
  have hK : KX t D v0 n z dp (pc + (coE u n G L e pc).length + (coE u n G L f (pc + (coE u n G L e pc).length)).length + 1) FB S (a + (coE u n G L e pc).length + (coE u n G L f (pc + (coE u n G L e pc).length)).length + 1) Q (bE (evE u n G (v0 14) z cl B L (.sub e f) S ρ) (fun q ρ1 => fdE (v0 14) S (g2 q 0) (g2 q 1) ρ1)) := hK.cast (by rw [hco]; omega) (by rw [hco]; omega)
  rw [bE_pair] at hK
  refine se_two hcl he hf we wf hB (by omega) (by omega) at1 at2 (by omega) k h1 h2 hK (fun x y ρ2 v2 i2 hk k2 c1 c2 => ?_)
  have hk : KX t D v0 n z dp (pc + (coE u n G L e pc).length + (coE u n G L f (pc + (coE u n G L e pc).length)).length + 1) FB S (a + (coE u n G L e pc).length + (coE u n G L f (pc + (coE u n G L e pc).length)).length + 1) Q (fdE (v0 14) S x y ρ2) := hk
  unfold fdE at hk
  refine act_c k2 c2 (by omega) (at_find hn k2 (by omega) at3 (fun e0 v' c' => ?_) (fun e0 v' k' => ?_))
  · rw [if_pos e0] at hk
    exact end_c c' (by decide) (hk v' c')
  · rw [if_neg (by omega)] at hk
    exact hk.ret k' (by show rK ρ2 ≤ _; omega) (by show ((i2 + 1 : Nat) : Int) ≤ 420 * ((rN ρ2 + x.2.2.toNat : Nat) : Int) + _; omega)
theorem se_nil {t : Int} {D : Nat} {v0 : Mem} {u : Nat → Int} {n z dp : Nat} {FB : List (Nat × Nat)} {G : Fn} {cl : XC} {M B j : Nat} {L : Sc} : SE t D v0 u n z dp FB G cl M B L j .null := by
  intro S ρ v pc i a Q hB hT hat hlen k h1 h2 hK
  have hK : ∀ v' i', CM v0 n z dp pc FB (S ++ []) ρ v' → rK ρ ≤ i' → i' ≤ 420 * rN ρ + (a + ((0 : Nat) : Int)) → LLc t D i' v' Q := hK
  exact hK v i (by rw [List.append_nil]; exact k) h1 (by omega)
theorem se_cons {t : Int} {D : Nat} {v0 : Mem} {u : Nat → Int} {n z dp : Nat} {FB : List (Nat × Nat)} {G : Fn} {cl : XC} {M B j : Nat} {L : Sc} {e r : Jvm.Term} (hcl : ∀ ci S ρ, rN ρ ≤ 20000 → okE 1 0 ρ (cl ci S ρ)) (he : SE t D v0 u n z dp FB G cl M B L 0 e) (hr : SE t D v0 u n z dp FB G cl M B L (j + 1) r) (we : wfE (kd u n) false e) : SE t D v0 u n z dp FB G cl M B L j (.sub e r) := by
  intro S ρ v pc i a Q hB hT hat hlen k h1 h2 hK
  have hT : S.length + max (j + tdE 0 e) (tdE (j + 1) r) ≤ M + j := hT
  have hco : (coE u n G L (.sub e r) pc).length = (coE u n G L e pc).length + (coE u n G L r (pc + (coE u n G L e pc).length)).length := by
    show (coE u n G L e pc ++ coE u n G L r (pc + (coE u n G L e pc).length)).length = _
    rw [List.length_append]
  have hat : AtK v0 pc (coE u n G L e pc ++ coE u n G L r (pc + (coE u n G L e pc).length)) := hat
  obtain ⟨at1, at2⟩ := hat.app
  have hK : KX t D v0 n z dp (pc + (coE u n G L e pc).length + (coE u n G L r (pc + (coE u n G L e pc).length)).length) FB S (a + (coE u n G L e pc).length + (coE u n G L r (pc + (coE u n G L e pc).length)).length) Q (bE (evE u n G (v0 14) z cl B L e S ρ) (fun q ρ1 => bE (evE u n G (v0 14) z cl B L r (S ++ q) ρ1) (fun q2 ρ2 => .ok (q ++ q2, ρ2)))) := hK.cast (by rw [hco]; omega) (by rw [hco]; omega)
  refine he S ρ v pc i a Q hB (by omega) at1 (by omega) k h1 h2 (hK.bnd (fun q ρ1 er hk v1 i1 k1 c1 c2 => ?_))
  have ok := (evE_ok (tx := v0 14) (z := z) (B := B) (L := L) (G := G) hcl _ e (Nat.lt_succ_self _)).1 we S ρ k.2.2.2.2.1.1
  rw [er] at ok
  obtain ⟨x, hx⟩ := one1' ok.1
  subst hx
  have ll : (S ++ [x]).length = S.length + 1 := by rw [List.length_append]; rfl
  refine hr (S ++ [x]) ρ1 v1 _ i1 (a + (coE u n G L e pc).length) Q (by omega) (by omega) at2 (by omega) k1 c1 c2 (hk.bnd (fun q2 ρ2 er2 hk2 v2 i2 k2 d1 d2 => ?_))
  have hk2 : ∀ v' i', CM v0 n z dp (pc + (coE u n G L e pc).length + (coE u n G L r (pc + (coE u n G L e pc).length)).length) FB (S ++ ([x] ++ q2)) ρ2 v' → rK ρ2 ≤ i' → i' ≤ 420 * rN ρ2 + (a + (coE u n G L e pc).length + (coE u n G L r (pc + (coE u n G L e pc).length)).length) → LLc t D i' v' Q := hk2
  exact hk2 v2 i2 (by rw [← List.append_assoc]; exact k2) d1 d2
theorem nf_call {u : Nat → Int} {n : Nat} {G : Fn} {L : Sc} {w : Nat} {as : Jvm.Term} (h : nfE u n G L (.op2 .ixor (.arg w) as) = []) : ¬ fno G (vl u n w) = -1 ∧ (fnP G (vl u n w)).length = argc as ∧ nfE u n G L as = [] := by
  have h : (if fno G (vl u n w) = -1 ∨ ¬ (fnP G (vl u n w)).length = argc as then [ps u n w] else []) ++ nfE u n G L as = [] := h
  obtain ⟨h1, h2⟩ := List.append_eq_nil_iff.mp h
  have h3 : ¬ (fno G (vl u n w) = -1 ∨ ¬ (fnP G (vl u n w)).length = argc as) := fun c => by
    rw [if_pos c] at h1
    cases h1
  exact ⟨fun c => h3 (Or.inl c), Classical.byContradiction (fun c => h3 (Or.inr c)), h2⟩
theorem se_call {t : Int} {D : Nat} {v0 : Mem} {u : Nat → Int} {n z dp : Nat} {FB : List (Nat × Nat)} {G : Fn} {cl : XC} {M B w : Nat} {L : Sc} {as : Jvm.Term} (hcl : ∀ ci S ρ, rN ρ ≤ 20000 → okE 1 0 ρ (cl ci S ρ)) (hsc : SC t D v0 n z dp FB G cl M) (he : SE t D v0 u n z dp FB G cl M B L 0 as) (we : wfE (kd u n) true as) (hnf : nfE u n G L (.op2 .ixor (.arg w) as) = []) : SE t D v0 u n z dp FB G cl M B L 0 (.op2 .ixor (.arg w) as) := by
  intro S ρ v pc i a Q hB hT hat hlen k h1 h2 hK
  have hT : S.length + max 1 (tdE 0 as) ≤ M + 0 := hT
  have hco : (coE u n G L (.op2 .ixor (.arg w) as) pc).length = (coE u n G L as pc).length + 1 := by
    show (coE u n G L as pc ++ [_]).length = _
    rw [List.length_append]; rfl
  have hat : AtK v0 pc (coE u n G L as pc ++ [(5, fno G (vl u n w), 0)]) := hat
  obtain ⟨at1, at2⟩ := hat.app
  have hK : KX t D v0 n z dp (pc + (coE u n G L as pc).length + 1) FB S (a + (coE u n G L as pc).length + 1) Q (bE (evE u n G (v0 14) z cl B L as S ρ) (fun q ρ1 => cl (fno G (vl u n w)) (S ++ q) ρ1)) := hK.cast (by rw [hco]; omega) (by rw [hco]; omega)
  refine he S ρ v pc i a Q hB (by omega) at1 (by omega) k h1 h2 (hK.bnd (fun q ρ1 er hk v1 i1 k1 c1 c2 => ?_))
  have ok := (evE_ok (tx := v0 14) (z := z) (B := B) (L := L) (G := G) hcl _ as (Nat.lt_succ_self _)).2 we S ρ k.2.2.2.2.1.1
  rw [er] at ok
  have hq : q.length = argc as := ok.1
  obtain ⟨n1, n2, -⟩ := nf_call hnf
  have td := td_argc _ as (Nat.lt_succ_self _) we 0
  exact hsc (vl u n w) S q ρ1 v1 _ i1 _ Q n1 (by omega) k1 at2 (by rw [List.length_append]; omega) c1 c2 (by omega) hk
/-- THE CLASS WORKS AN E OUT AS evE SAYS -/
theorem SE_all {t : Int} {D : Nat} {v0 : Mem} {u : Nat → Int} {b : Nat → Int} {n z dp : Nat} {FB : List (Nat × Nat)} {G : Fn} {cl : XC} {M B bk : Nat} {L : Sc} (hn : n ≤ 3000) (hu : u = uB b n) (hM : M ≤ 1400) (hcl : ∀ ci S ρ, rN ρ ≤ 20000 → okE 1 0 ρ (cl ci S ρ)) (hsc : SC t D v0 n z dp (FB ++ [(B, bk)]) G cl M) : ∀ (N : Nat) (e : Jvm.Term), SizeOf.sizeOf e < N → (wfE (kd u n) false e → nfE u n G L e = [] → SE t D v0 u n z dp (FB ++ [(B, bk)]) G cl M B L 0 e) ∧ (wfE (kd u n) true e → nfE u n G L e = [] → ∀ j, SE t D v0 u n z dp (FB ++ [(B, bk)]) G cl M B L j e) := by
  intro N
  induction N with
  | zero => intro e he; exact absurd he (Nat.not_lt_zero _)
  | succ N ih =>
    intro e he
    constructor
    · intro hw hnf
      unfold wfE at hw
      split at hw
      · rename_i h; cases h
      · rename_i h; cases h
      · exact hw.elim
      · exact se_arg hn hu hM hw hnf
      · rename_i i e1 _
        exact (ih e1 (by simp at he; omega)).1 hw hnf
      · rename_i i e1 _
        exact se_mul hM hcl hw.2 ((ih e1 (by simp at he; omega)).1 hw.2 hnf)
      · rename_i i l r _
        have hnf : nfE u n G L l ++ nfE u n G L r = [] := hnf
        obtain ⟨n1, n2⟩ := List.append_eq_nil_iff.mp hnf
        have a1 := (ih l (by simp at he; omega)).1 hw.2.1 n1
        have a2 := (ih r (by simp at he; omega)).1 hw.2.2 n2
        by_cases c : lvl (kd u n i) ≤ 1
        · exact se_settle hM hcl a1 a2 hw.2.1 hw.2.2 c
        · exact se_op hn hM hcl a1 a2 hw.2.1 hw.2.2 hw.1 c
      · rename_i s e1 _
        have hnf : nfE u n G L s ++ nfE u n G L e1 = [] := hnf
        obtain ⟨n1, n2⟩ := List.append_eq_nil_iff.mp hnf
        exact se_div hn hM hcl ((ih s (by simp at he; omega)).1 hw.1 n1) ((ih e1 (by simp at he; omega)).1 hw.2 n2) hw.1 hw.2
      · rename_i s a b _
        have hnf : nfE u n G L s ++ (nfE u n G L a ++ nfE u n G L b) = [] := hnf
        obtain ⟨n1, n23⟩ := List.append_eq_nil_iff.mp hnf
        obtain ⟨n2, n3⟩ := List.append_eq_nil_iff.mp n23
        exact se_rem hn hM hcl ((ih s (by simp at he; omega)).1 hw.1 n1) ((ih a (by simp at he; omega)).1 hw.2.1 n2) ((ih b (by simp at he; omega)).1 hw.2.2 n3) hw.1 hw.2.1 hw.2.2
      · rename_i i e1 _
        exact se_one hn hM hcl ((ih e1 (by simp at he; omega)).1 hw.2 hnf) hw.2
      · rename_i i a b _
        have hnf : nfE u n G L a ++ nfE u n G L b = [] := hnf
        obtain ⟨n1, n2⟩ := List.append_eq_nil_iff.mp hnf
        exact se_find hn hM hcl ((ih a (by simp at he; omega)).1 hw.1 n1) ((ih b (by simp at he; omega)).1 hw.2 n2) hw.1 hw.2
      · rename_i i as _
        exact se_call hcl hsc ((ih as (by simp at he; omega)).2 hw.2 (nf_call hnf).2.2 0) hw.2 hnf
      · exact hw.elim
    · intro hw hnf j
      unfold wfE at hw
      split at hw
      · exact se_nil
      · rename_i e1 r _
        have hnf : nfE u n G L e1 ++ nfE u n G L r = [] := hnf
        obtain ⟨n1, n2⟩ := List.append_eq_nil_iff.mp hnf
        exact se_cons hcl ((ih e1 (by simp at he; omega)).1 hw.1 n1) ((ih r (by simp at he; omega)).2 hw.2 n2 (j + 1)) hw.1
      · exact hw.elim
      all_goals first | exact hw.elim | (rename_i h; cases h)
