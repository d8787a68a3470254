/-! The class does what an E says: signs between two, brackets. -/
theorem bE_as {r : XE} {k k' : List Rw → Rho → XE} : bE (bE r k) k' = bE r (fun q ρ => bE (k q ρ) k') := by
  match r with
  | .error e => rfl
  | .ok q => rfl
theorem bE_pair {u : Nat → Int} {n : Nat} {G : Fn} {tx : Nat → Int} {z : Nat} {cl : XC} {B : Nat} {L : Sc} {a b : Jvm.Term} {S : List Rw} {ρ : Rho} {k : List Rw → Rho → XE} : bE (evE u n G tx z cl B L (.sub a b) S ρ) k = bE (evE u n G tx z cl B L a S ρ) (fun q ρ1 => bE (evE u n G tx z cl B L b (S ++ q) ρ1) (fun q2 ρ2 => k (q ++ q2) ρ2)) := by
  show bE (bE (evE u n G tx z cl B L a S ρ) (fun q ρ1 => bE (evE u n G tx z cl B L b (S ++ q) ρ1) (fun q2 ρ2 => .ok (q ++ q2, ρ2)))) k = _
  rw [bE_as]
  congr 1
  funext q ρ1
  rw [bE_as]
  rfl
theorem KX.mk0 {t : Int} {D i : Nat} {a : Int} {v0 v' : Mem} {n z dp pc m : Nat} {g : Nat → Int} {FB : List (Nat × Nat)} {S : List Rw} {ρ : Rho} {Q : Int → Mem → Prop} (h : KX t D v0 n z dp pc FB S a Q (mkE z S m g ρ)) (hf : fit z (m + 1) 0 (rH ρ) = none) (c : CE v0 z 2 0 ρ v') : LLc t D i v' Q := by
  unfold mkE at h
  rw [hf] at h
  exact end_c c (by decide) (h v' c)
theorem KX.mk1 {t : Int} {D i y : Nat} {a : Int} {v0 v' : Mem} {n z dp pc m : Nat} {g : Nat → Int} {FB : List (Nat × Nat)} {S : List Rw} {ρ : Rho} {Q : Int → Mem → Prop} (h : KX t D v0 n z dp pc FB S a Q (mkE z S m g ρ)) (hf : fit z (m + 1) 0 (rH ρ) = some y) (c : CM v0 n z dp pc FB (S ++ [((y : Int), ((3000 + y : Nat) : Int), (m : Int))]) (mkR S m y g ρ) v') (h1 : rK ρ + 1 ≤ i) (h2 : i ≤ 420 * rN ρ + a) : LLc t D i v' Q := by
  unfold mkE at h
  rw [hf] at h
  exact h v' i c h1 h2
theorem se_two {t : Int} {D : Nat} {v0 : Mem} {u : Nat → Int} {n z dp : Nat} {FB : List (Nat × Nat)} {G : Fn} {cl : XC} {M B : Nat} {L : Sc} {e f : Jvm.Term} (hcl : ∀ ci S ρ, rN ρ ≤ 20000 → okE 1 0 ρ (cl ci S ρ)) (he : SE t D v0 u n z dp FB G cl M B L 0 e) (hf : SE t D v0 u n z dp FB G cl M B L 0 f) (we : wfE (kd u n) false e) (wf : wfE (kd u n) false f)
    {S S0 : List Rw} {ρ : Rho} {v : Mem} {pc i PC : Nat} {a A : Int} {Q : Int → Mem → Prop} {kk : List Rw → List Rw → Rho → XE} (hB : B + L.length ≤ S.length) (hT1 : S.length + tdE 0 e ≤ M) (hT2 : S.length + 1 + tdE 0 f ≤ M) (at1 : AtK v0 pc (coE u n G L e pc)) (at2 : AtK v0 (pc + (coE u n G L e pc).length) (coE u n G L f (pc + (coE u n G L e pc).length))) (hlen : a + (coE u n G L e pc).length + (coE u n G L f (pc + (coE u n G L e pc).length)).length ≤ 400) (k : CM v0 n z dp pc FB S ρ v) (h1 : rK ρ ≤ i) (h2 : i ≤ 420 * rN ρ + a)
    (hK : KX t D v0 n z dp PC FB S0 A Q (bE (evE u n G (v0 14) z cl B L e S ρ) (fun q ρ1 => bE (evE u n G (v0 14) z cl B L f (S ++ q) ρ1) (fun q2 ρ2 => kk q q2 ρ2))))
    (fin : ∀ x y ρ2 v2 i2, KX t D v0 n z dp PC FB S0 A Q (kk [x] [y] ρ2) → CM v0 n z dp (pc + (coE u n G L e pc).length + (coE u n G L f (pc + (coE u n G L e pc).length)).length) FB (S ++ [x, y]) ρ2 v2 → rK ρ2 ≤ i2 → i2 ≤ 420 * rN ρ2 + (a + (coE u n G L e pc).length + (coE u n G L f (pc + (coE u n G L e pc).length)).length) → LLc t D i2 v2 Q) : LLc t D i v Q := by
  refine he S ρ v pc i a Q hB (by omega) at1 (by omega) k h1 h2 (hK.bnd (fun q ρ1 er hk v1 i1 k1 c1 c2 => ?_))
  have ok := (evE_ok (tx := v0 14) (z := z) (B := B) (L := L) (G := G) hcl _ e (Nat.lt_succ_self _)).1 we S ρ k.2.2.2.2.1.1
  rw [er] at ok
  obtain ⟨x, hx⟩ := one1' ok.1
  subst hx
  have ll : (S ++ [x]).length = S.length + 1 := by rw [List.length_append]; rfl
  refine hf (S ++ [x]) ρ1 v1 _ i1 (a + (coE u n G L e pc).length) Q (by omega) (by omega) at2 (by omega) k1 c1 c2 (hk.bnd (fun q2 ρ2 er2 hk2 v2 i2 k2 d1 d2 => ?_))
  have ok2 := (evE_ok (tx := v0 14) (z := z) (B := B) (L := L) (G := G) hcl _ f (Nat.lt_succ_self _)).1 wf (S ++ [x]) ρ1 k1.2.2.2.2.1.1
  rw [er2] at ok2
  obtain ⟨y, hy⟩ := one1' ok2.1
  subst hy
  rw [List.append_assoc] at k2
  exact fin x y ρ2 v2 i2 hk2 k2 d1 d2
theorem se_div {t : Int} {D : Nat} {v0 : Mem} {u : Nat → Int} {n z dp : Nat} {FB : List (Nat × Nat)} {G : Fn} {cl : XC} {M B : Nat} {L : Sc} {e f : Jvm.Term} (hn : n ≤ 3000) (hM : M ≤ 1400) (hcl : ∀ ci S ρ, rN ρ ≤ 20000 → okE 1 0 ρ (cl ci S ρ)) (he : SE t D v0 u n z dp FB G cl M B L 0 e) (hf : SE t D v0 u n z dp FB G cl M B L 0 f) (we : wfE (kd u n) false e) (wf : wfE (kd u n) false f) : SE t D v0 u n z dp FB G cl M B L 0 (.div e f) := by
  intro S ρ v pc i a Q hB hT hat hlen k h1 h2 hK
  have hT : S.length + max (tdE 0 e) (1 + tdE 0 f) ≤ M + 0 := hT
  have hco : (coE u n G L (.div e f) pc).length = (coE u n G L e pc).length + (coE u n G L f (pc + (coE u n G L e pc).length)).length + 1 := by
    show (coE u n G L e pc ++ (coE u n G L f (pc + (coE u n G L e pc).length) ++ [_])).length = _
    rw [List.length_append, List.length_append]; rfl
  have hat : AtK v0 pc (coE u n G L e pc ++ (coE u n G L f (pc + (coE u n G L e pc).length) ++ [(20, 0, 0)])) := hat
  obtain ⟨at1, at23⟩ := hat.app
  obtain ⟨at2, at3⟩ := at23.app
  have hK : KX t D v0 n z dp (pc + (coE u n G L e pc).length + (coE u n G L f (pc + (coE u n G L e pc).length)).length + 1) FB S (a + (coE u n G L e pc).length + (coE u n G L f (pc + (coE u n G L e pc).length)).length + 1) Q (bE (evE u n G (v0 14) z cl B L e S ρ) (fun q ρ1 => bE (evE u n G (v0 14) z cl B L f (S ++ q) ρ1) (fun q2 ρ2 => rtE S (-1, byA (bt (v0 14) (rB ρ2)) (g2 q 0) (g2 q2 0).2.1, 0) ρ2))) := hK.cast (by rw [hco]; omega) (by rw [hco]; omega)
  refine se_two hcl he hf we wf hB (by omega) (by omega) at1 at2 (by omega) k h1 h2 hK (fun x y ρ2 v2 i2 hk k2 c1 c2 => ?_)
  have hk : KX t D v0 n z dp (pc + (coE u n G L e pc).length + (coE u n G L f (pc + (coE u n G L e pc).length)).length + 1) FB S (a + (coE u n G L e pc).length + (coE u n G L f (pc + (coE u n G L e pc).length)).length + 1) Q (rtE S (-1, byA (bt (v0 14) (rB ρ2)) x y.2.1, 0) ρ2) := hk
  exact fin_ret k2 hk c1 c2 (by omega) (fun h => at_byte hn k2 (by omega) at3.act h)
theorem lvl_op {k : Int} (h5 : lvl k < 5) (h1 : ¬ lvl k ≤ 1) (h2 : ¬ lvl k = 2) (h38 : ¬ k = 38) : k = 42 ∨ k = 43 ∨ k = 45 ∨ k = 47 ∨ k = 37 := by
  unfold lvl at h5 h1 h2
  by_cases c1 : k = 20
  · rw [if_pos c1] at h1; omega
  rw [if_neg c1] at h5 h1 h2
  by_cases c2 : k = 10
  · rw [if_pos c2] at h1; omega
  rw [if_neg c2] at h5 h1 h2
  by_cases c3 : k = 189 ∨ k = 161 ∨ k = 60 ∨ k = 188
  · rw [if_pos c3] at h2; omega
  rw [if_neg c3] at h5 h1 h2
  by_cases c4 : k = 43 ∨ k = 45 ∨ k = 38
  · omega
  rw [if_neg c4] at h5 h1 h2
  by_cases c5 : k = 42 ∨ k = 47 ∨ k = 37
  · omega
  rw [if_neg c5] at h5
  omega
theorem se_op {t : Int} {D : Nat} {v0 : Mem} {u : Nat → Int} {n z dp : Nat} {FB : List (Nat × Nat)} {G : Fn} {cl : XC} {M B w : Nat} {L : Sc} {e f : Jvm.Term} (hn : n ≤ 3000) (hM : M ≤ 1400) (hcl : ∀ ci S ρ, rN ρ ≤ 20000 → okE 1 0 ρ (cl ci S ρ)) (he : SE t D v0 u n z dp FB G cl M B L 0 e) (hf : SE t D v0 u n z dp FB G cl M B L 0 f) (we : wfE (kd u n) false e) (wf : wfE (kd u n) false f) (h5 : lvl (kd u n w) < 5) (hl1 : ¬ lvl (kd u n w) ≤ 1) : SE t D v0 u n z dp FB G cl M B L 0 (.add (.arg w) (.sub e f)) := by
  intro S ρ v pc i a Q hB hT hat hlen k h1 h2 hK
  have hT : S.length + max (tdE 0 e) (1 + tdE 0 f) ≤ M + 0 := hT
  obtain ⟨ac, hac, hacv⟩ : ∃ ac : Int × Int × Int, coE u n G L (.add (.arg w) (.sub e f)) pc = coE u n G L e pc ++ (coE u n G L f (pc + (coE u n G L e pc).length) ++ [ac]) ∧ ((lvl (kd u n w) = 2 ∧ ac = (18, kd u n w, tyE u n G L e)) ∨ (¬ lvl (kd u n w) = 2 ∧ ac = (if kd u n w = 38 then 19 else 17, kd u n w, 0))) := by
    by_cases c : lvl (kd u n w) = 2
    · refine ⟨_, ?_, Or.inl ⟨c, rfl⟩⟩
      show (if lvl (kd u n w) ≤ 1 then _ else if lvl (kd u n w) = 2 then _ else _) = _
      rw [if_neg hl1, if_pos c]
    · refine ⟨_, ?_, Or.inr ⟨c, rfl⟩⟩
      show (if lvl (kd u n w) ≤ 1 then _ else if lvl (kd u n w) = 2 then _ else _) = _
      rw [if_neg hl1, if_neg c]
  have hco : (coE u n G L (.add (.arg w) (.sub e f)) pc).length = (coE u n G L e pc).length + (coE u n G L f (pc + (coE u n G L e pc).length)).length + 1 := by
    rw [hac, List.length_append, List.length_append]; rfl
  rw [hac] at hat
  obtain ⟨at1, at23⟩ := hat.app
  obtain ⟨at2, at3⟩ := at23.app
  have hev : evE u n G (v0 14) z cl B L (.add (.arg w) (.sub e f)) S ρ = bE (evE u n G (v0 14) z cl B L e S ρ) (fun q ρ1 => bE (evE u n G (v0 14) z cl B L f (S ++ q) ρ1) (fun q2 ρ2 => opE (v0 14) z (kd u n w) (tyE u n G L e) S (g2 q 0) (g2 q2 0) ρ2)) := by
    show (if lvl (kd u n w) ≤ 1 then _ else _) = _
    rw [if_neg hl1]
  rw [hev] at hK
  have hK := hK.cast (pc' := pc + (coE u n G L e pc).length + (coE u n G L f (pc + (coE u n G L e pc).length)).length + 1) (a' := a + (coE u n G L e pc).length + (coE u n G L f (pc + (coE u n G L e pc).length)).length + 1) (by rw [hco]; omega) (by rw [hco]; omega)
  refine se_two hcl he hf we wf hB (by omega) (by omega) at1 at2 (by omega) k h1 h2 hK (fun x y ρ2 v2 i2 hk k2 c1 c2 => ?_)
  have hN := k2.2.2.2.2.1.1
  have hk : KX t D v0 n z dp (pc + (coE u n G L e pc).length + (coE u n G L f (pc + (coE u n G L e pc).length)).length + 1) FB S (a + (coE u n G L e pc).length + (coE u n G L f (pc + (coE u n G L e pc).length)).length + 1) Q (opE (v0 14) z (kd u n w) (tyE u n G L e) S x y ρ2) := hk
  unfold opE at hk
  rcases hacv with ⟨g1, g2⟩ | ⟨g1, g2⟩
  · rw [if_pos g1] at hk
    rw [g2] at at3
    exact fin_ret k2 hk c1 c2 (by omega) (fun h => at_cmp hn k2 (by omega) at3.act h)
  · rw [if_neg g1] at hk
    by_cases g3 : kd u n w = 38
    · rw [if_pos g3] at hk g2
      rw [g2] at at3
      unfold jnE at hk
      refine act_c k2 c2 (by omega) (at_join hn k2 (by omega) (by omega) at3.act (fun e0 v' k' => ?_) (fun e0 e1 v' k' => ?_) (fun e0 e1 e2 v' c' => ?_) (fun e0 e1 y' e2 v' k' => ?_))
      · rw [if_pos e0] at hk; exact hk.ret k' (by omega) (by omega)
      · rw [if_neg e0, if_pos e1] at hk; exact hk.ret k' (by omega) (by omega)
      · rw [if_neg e0, if_neg e1] at hk; exact hk.mk0 e2 c'
      · rw [if_neg e0, if_neg e1] at hk; exact hk.mk1 e2 k' (by omega) (by omega)
    · rw [if_neg g3] at hk g2
      rw [g2] at at3
      refine act_c k2 c2 (by omega) (at_reck hn k2 (by omega) at3.act (lvl_op h5 hl1 g1 g3) (fun e0 v' c' => ?_) (fun e0 v' k' => ?_))
      · rw [if_pos e0] at hk; exact end_c c' (by decide) (hk v' c')
      · rw [if_neg e0] at hk; exact hk.ret k' (by omega) (by omega)
