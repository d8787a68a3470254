/-! The class does what an E says: E by E. -/
theorem KX.cast {t : Int} {D : Nat} {v0 : Mem} {n z dp pc pc' : Nat} {FB : List (Nat × Nat)} {S : List Rw} {a a' : Int} {Q : Int → Mem → Prop} {r : XE} (h : KX t D v0 n z dp pc FB S a Q r) (e1 : pc = pc') (e2 : a = a') : KX t D v0 n z dp pc' FB S a' Q r := by
  subst e1 e2
  exact h
theorem one1' {q : List Rw} (h : q.length = 1) : ∃ x, q = [x] := ⟨_, len1 h⟩
/-- the class calls as cl says: x the NAME, q what is handed over -/
def SC (t : Int) (D : Nat) (v0 : Mem) (n z dp : Nat) (FB : List (Nat × Nat)) (G : Fn) (cl : XC) (M : Nat) : Prop := ∀ (x : Int) (S0 q : List Rw) (ρ : Rho) (v : Mem) (pc i : Nat) (a : Int) (Q : Int → Mem → Prop), ¬ fno G x = -1 → (fnP G x).length = q.length → CM v0 n z dp pc FB (S0 ++ q) ρ v → AtK v0 pc [(5, fno G x, 0)] → (S0 ++ q).length ≤ M → rK ρ ≤ i → i ≤ 420 * rN ρ + a → a ≤ 400 → KX t D v0 n z dp (pc + 1) FB S0 (a + 1) Q (cl (fno G x) (S0 ++ q) ρ) → LLc t D i v Q
/-- the class works an E out as evE says -/
def SE (t : Int) (D : Nat) (v0 : Mem) (u : Nat → Int) (n z dp : Nat) (FB : List (Nat × Nat)) (G : Fn) (cl : XC) (M B : Nat) (L : Sc) (j : Nat) (e : Jvm.Term) : Prop := ∀ (S : List Rw) (ρ : Rho) (v : Mem) (pc i : Nat) (a : Int) (Q : Int → Mem → Prop), B + L.length ≤ S.length → S.length + tdE j e ≤ M + j → AtK v0 pc (coE u n G L e pc) → a + (coE u n G L e pc).length ≤ 400 → CM v0 n z dp pc FB S ρ v → rK ρ ≤ i → i ≤ 420 * rN ρ + a → KX t D v0 n z dp (pc + (coE u n G L e pc).length) FB S (a + (coE u n G L e pc).length) Q (evE u n G (v0 14) z cl B L e S ρ) → LLc t D i v Q
theorem td_argc {K : Nat → Int} : ∀ (N : Nat) (e : Jvm.Term), SizeOf.sizeOf e < N → wfE K true e → ∀ k, k + argc e ≤ tdE k e := by
  intro N
  induction N with
  | zero => intro e he; exact absurd he (Nat.not_lt_zero _)
  | succ N ih =>
    intro e he hw
    unfold wfE at hw
    split at hw
    · intro k; exact Nat.le_refl _
    · rename_i e1 r _
      intro k
      have := ih r (by simp at he; omega) hw.2 (k + 1)
      show k + (argc r + 1) ≤ max (k + tdE 0 e1) (tdE (k + 1) r)
      omega
    · exact hw.elim
    all_goals first | exact hw.elim | (rename_i h; cases h)
theorem fin_ret {t : Int} {D i : Nat} {a : Int} {v0 : Mem} {n z dp pc pc1 : Nat} {FB : List (Nat × Nat)} {S S1 : List Rw} {r : Rw} {ρ : Rho} {v : Mem} {Q : Int → Mem → Prop} (k : CM v0 n z dp pc1 FB S1 ρ v) (hk : KX t D v0 n z dp pc FB S (a + 1) Q (rtE S r ρ)) (c1 : rK ρ ≤ i) (c2 : i ≤ 420 * rN ρ + a) (ha : a ≤ 400) (h : (∀ v', CM v0 n z dp pc FB (S ++ [r]) (wH ρ (gc (S ++ [r]) z0 (rH ρ))) v' → LLc t D (i + 1) v' Q) → RR t (D + 20) 56 [(2, 31)] v (fun _ v' => LLc t D (i + 1) v' Q)) : LLc t D i v Q := act_c k c2 (by omega) (h (fun v' k' => hk.ret k' (by omega) (by omega)))
theorem se_arg {t : Int} {D : Nat} {v0 : Mem} {u : Nat → Int} {b : Nat → Int} {n z dp : Nat} {FB : List (Nat × Nat)} {G : Fn} {cl : XC} {M B bk : Nat} {L : Sc} {w : Nat} (hn : n ≤ 3000) (hu : u = uB b n) (hM : M ≤ 1400) (hw : kd u n w = 3 ∨ kd u n w = 4 ∨ kd u n w = 2) (hnf : nfE u n G L (.arg w) = []) : SE t D v0 u n z dp (FB ++ [(B, bk)]) G cl M B L 0 (.arg w) := by
  intro S ρ v pc i a Q hB hT hat hlen k h1 h2 hK
  have hT : S.length + 1 ≤ M + 0 := hT
  have hlen : a + 1 ≤ 400 := hlen
  have hat : AtK v0 pc [if kd u n w = 3 then (7, vl u n w, 0) else if kd u n w = 4 then (8, (ps u n w : Int) + 1, vl u n w) else (9, slt L (vl u n w), 0)] := hat
  have hK : ∀ v' i', CM v0 n z dp (pc + 1) (FB ++ [(B, bk)]) (S ++ [if kd u n w = 3 then (-1, vl u n w, 0) else if kd u n w = 4 then (-1, (ps u n w : Int) + 1, vl u n w) else S.getD (B + (slt L (vl u n w)).toNat) (-1, 0, 0)]) ρ v' → rK ρ ≤ i' → i' ≤ 420 * rN ρ + (a + 1) → LLc t D i' v' Q := hK
  by_cases c3 : kd u n w = 3
  · rw [if_pos c3] at hat hK
    have b3 := vl_num hu c3
    exact act_c k h2 (by omega) (at_num k (by omega) hat.act (by omega) (fun v' k' => hK v' _ k' (by omega) (by omega)))
  · rw [if_neg c3] at hat hK
    by_cases c4 : kd u n w = 4
    · rw [if_pos c4] at hat hK
      obtain ⟨c, g1, g3⟩ := vl_q hu c4
      refine act_c k h2 (by omega) (at_quo k (by omega) hat.act ?_ (fun v' k' => hK v' _ k' (by omega) (by omega)))
      rw [g1]
      by_cases c0 : c = 0
      · rw [c0]
        exact rok.int (by omega) (by omega)
      · exact Or.inr (Or.inl ⟨ps u n w + 1, c, rfl, by omega, g3⟩)
    · rw [if_neg c4] at hat hK
      have c2 : kd u n w = 2 := by omega
      have hnf : (if kd u n w = 2 ∧ slt L (vl u n w) = -1 then [ps u n w] else []) = [] := hnf
      have hs : ¬ slt L (vl u n w) = -1 := fun e => by
        rw [if_pos ⟨c2, e⟩] at hnf
        cases hnf
      rcases fndA_r (fun k => (L.getD k (0, 0)).1) (vl u n w) L.length 0 with g | ⟨j, g1, g3, g4, -⟩
      · exact absurd g hs
      · have g1 : slt L (vl u n w) = (j : Int) := g1
        rw [g1] at hat hK
        rw [Int.toNat_natCast] at hK
        exact act_c k h2 (by omega) (at_loc k (by omega) hat.act (by omega) (fun v' k' => hK v' _ k' (by omega) (by omega)))
theorem se_mul {t : Int} {D : Nat} {v0 : Mem} {u : Nat → Int} {n z dp : Nat} {FB : List (Nat × Nat)} {G : Fn} {cl : XC} {M B : Nat} {L : Sc} {w : Nat} {e : Jvm.Term} (hM : M ≤ 1400) (hcl : ∀ ci S ρ, rN ρ ≤ 20000 → okE 1 0 ρ (cl ci S ρ)) (hw : wfE (kd u n) false e) (he : SE t D v0 u n z dp FB G cl M B L 0 e) : SE t D v0 u n z dp FB G cl M B L 0 (.mul (.arg w) e) := by
  intro S ρ v pc i a Q hB hT hat hlen k h1 h2 hK
  have hT : S.length + tdE 0 e ≤ M + 0 := hT
  have hco : (coE u n G L (.mul (.arg w) e) pc).length = (coE u n G L e pc).length + 1 := by
    show (coE u n G L e pc ++ [_]).length = _
    rw [List.length_append]; rfl
  have hat : AtK v0 pc (coE u n G L e pc ++ [(if kd u n w = 45 then 15 else 16, 0, 0)]) := hat
  obtain ⟨at1, at2⟩ := hat.app
  have hK : KX t D v0 n z dp (pc + (coE u n G L e pc).length + 1) FB S (a + (coE u n G L e pc).length + 1) Q (bE (evE u n G (v0 14) z cl B L e S ρ) (fun q ρ1 => frE (kd u n w) S (g2 q 0) ρ1)) := hK.cast (by rw [hco]; omega) (by rw [hco]; omega)
  refine he S ρ v pc i a Q hB hT at1 (by omega) k h1 h2 (hK.bnd (fun q ρ1 er hk v1 i1 k1 c1 c2 => ?_))
  have ok := (evE_ok (tx := v0 14) (z := z) (B := B) (L := L) (G := G) hcl _ e (Nat.lt_succ_self _)).1 hw S ρ k.2.2.2.2.1.1
  rw [er] at ok
  obtain ⟨x, hx⟩ := one1' ok.1
  subst hx
  have td1 : 0 ≤ tdE 0 e := Nat.zero_le _
  have hk : KX t D v0 n z dp (pc + (coE u n G L e pc).length + 1) FB S (a + (coE u n G L e pc).length + 1) Q (rtE S (-1, (if kd u n w = 45 then w32 (-x.2.1) else 1 - tr x.2.1), 0) ρ1) := hk
  by_cases c : kd u n w = 45
  · rw [if_pos c] at at2 hk
    exact fin_ret k1 hk c1 c2 (by omega) (fun h => at_neg k1 (by omega) at2.act h)
  · rw [if_neg c] at at2 hk
    exact fin_ret k1 hk c1 c2 (by omega) (fun h => at_not k1 (by omega) at2.act h)
