/-! The class does what S say. -/
/-- what is to follow behind S: the next act; or what called goes on; or the run has ended -/
def KY (t : Int) (D : Nat) (v0 : Mem) (n z dp pc : Nat) (FB : List (Nat × Nat)) (B bk : Nat) (S0 : List Rw) (a : Int) (Q : Int → Mem → Prop) (r : XS) : Prop := match r with
  | .error e => ∀ v', CE v0 z e.1 0 e.2 v' → Q e.1 v'
  | .ok (false, S', ρ') => ∀ v' i', CM v0 n z dp pc (FB ++ [(B, bk)]) S' ρ' v' → rK ρ' ≤ i' → i' ≤ 420 * rN ρ' + a → LLc t D i' v' Q
  | .ok (true, q, ρ') => (1 ≤ FB.length → ∀ v' i', CM v0 n z dp bk FB (S0 ++ q) ρ' v' → rK ρ' ≤ i' → i' ≤ 420 * rN ρ' + a → LLc t D i' v' Q) ∧ (FB.length = 0 → ∀ v', CE v0 z 0 (g2 q 0).2.1 ρ' v' → Q 0 v')
theorem KY.bnd {t : Int} {D : Nat} {v0 : Mem} {n z dp pc pc' : Nat} {FB : List (Nat × Nat)} {B bk : Nat} {S0 : List Rw} {a a' : Int} {Q : Int → Mem → Prop} {r : XS} {k : List Rw → Rho → XS} (h : KY t D v0 n z dp pc FB B bk S0 a Q (bS r k)) (ha : a' ≤ a) (hk : ∀ S1 ρ1, r = .ok (false, S1, ρ1) → KY t D v0 n z dp pc FB B bk S0 a Q (k S1 ρ1) → ∀ v' i', CM v0 n z dp pc' (FB ++ [(B, bk)]) S1 ρ1 v' → rK ρ1 ≤ i' → i' ≤ 420 * rN ρ1 + a' → LLc t D i' v' Q) : KY t D v0 n z dp pc' FB B bk S0 a' Q r := by
  match r, h with
  | .error e, h => exact h
  | .ok (true, q, ρ1), h => exact ⟨fun hf v' i' c c1 c2 => h.1 hf v' i' c c1 (by omega), h.2⟩
  | .ok (false, q, ρ1), h => exact hk q ρ1 rfl h
theorem KY.toE {t : Int} {D : Nat} {v0 : Mem} {n z dp pc pc' : Nat} {FB : List (Nat × Nat)} {B bk : Nat} {S0 S' : List Rw} {a a' : Int} {Q : Int → Mem → Prop} {r : XE} {k : List Rw → Rho → XS} (h : KY t D v0 n z dp pc FB B bk S0 a Q (bES r k)) (hk : ∀ q ρ1, r = .ok (q, ρ1) → KY t D v0 n z dp pc FB B bk S0 a Q (k q ρ1) → ∀ v' i', CM v0 n z dp pc' (FB ++ [(B, bk)]) (S' ++ q) ρ1 v' → rK ρ1 ≤ i' → i' ≤ 420 * rN ρ1 + a' → LLc t D i' v' Q) : KX t D v0 n z dp pc' (FB ++ [(B, bk)]) S' a' Q r := by
  match r, h with
  | .error e, h => exact h
  | .ok (q, ρ1), h => exact hk q ρ1 rfl h
theorem KY.less {t : Int} {D : Nat} {v0 : Mem} {n z dp pc : Nat} {FB : List (Nat × Nat)} {B bk : Nat} {S0 : List Rw} {a a' : Int} {Q : Int → Mem → Prop} {r : XS} (h : KY t D v0 n z dp pc FB B bk S0 a Q r) (ha : a' ≤ a) : KY t D v0 n z dp pc FB B bk S0 a' Q r := by
  match r, h with
  | .error e, h => exact h
  | .ok (true, q, ρ1), h => exact ⟨fun hf v' i' c c1 c2 => h.1 hf v' i' c c1 (by omega), h.2⟩
  | .ok (false, q, ρ1), h => exact fun v' i' c c1 c2 => h v' i' c c1 (by omega)
/-- BEHIND comes first -/
theorem KY.look {t : Int} {D : Nat} {v0 : Mem} {n z dp pc : Nat} {FB : List (Nat × Nat)} {B bk : Nat} {S0 : List Rw} {a : Int} {Q : Int → Mem → Prop} {r : XS} (h : KY t D v0 n z dp (pc + 1) FB B bk S0 a Q r) (at' : actAt v0 pc 1 0 0) (ha : a ≤ 200) : KY t D v0 n z dp pc FB B bk S0 (a - 1) Q r := by
  match r, h with
  | .error e, h => exact h
  | .ok (true, q, ρ1), h => exact ⟨fun hf v' i' c c1 c2 => h.1 hf v' i' c c1 (by omega), h.2⟩
  | .ok (false, q, ρ1), h => exact fun v' i' c c1 c2 => act_c c c2 (by omega) (at_look c at' (fun v'' k'' => h v'' (i' + 1) k'' (by omega) (by omega)))
/-- JUMP comes first -/
theorem KY.jump {t : Int} {D : Nat} {v0 : Mem} {n z dp pc g : Nat} {FB : List (Nat × Nat)} {B bk : Nat} {S0 : List Rw} {a : Int} {Q : Int → Mem → Prop} {r : XS} (h : KY t D v0 n z dp g FB B bk S0 a Q r) (at' : actAt v0 pc 2 (g : Int) 0) (ha : a ≤ 200) : KY t D v0 n z dp pc FB B bk S0 (a - 1) Q r := by
  match r, h with
  | .error e, h => exact h
  | .ok (true, q, ρ1), h => exact ⟨fun hf v' i' c c1 c2 => h.1 hf v' i' c c1 (by omega), h.2⟩
  | .ok (false, q, ρ1), h => exact fun v' i' c c1 c2 => act_c c c2 (by omega) (at_jump c at' (fun v'' k'' => h v'' (i' + 1) k'' (by omega) (by omega)))
theorem KY.cast {t : Int} {D : Nat} {v0 : Mem} {n z dp pc pc' : Nat} {FB : List (Nat × Nat)} {B bk : Nat} {S0 : List Rw} {a : Int} {Q : Int → Mem → Prop} {r : XS} (h : KY t D v0 n z dp pc FB B bk S0 a Q r) (e1 : pc = pc') : KY t D v0 n z dp pc' FB B bk S0 a Q r := by
  subst e1
  exact h
theorem CM.gcs {v0 v : Mem} {n z dp pc : Nat} {FB : List (Nat × Nat)} {S : List Rw} {ρ : Rho} (h : CM v0 n z dp pc FB S ρ v) : CM v0 n z dp pc FB S (wH ρ (gc S z0 (rH ρ))) v := by
  rw [gc_all h.2.1]
  exact h
/-- the class does as S say -/
def SB (t : Int) (D : Nat) (v0 : Mem) (u : Nat → Int) (n z dp : Nat) (FB : List (Nat × Nat)) (G : Fn) (cl : XC) (B bk sl : Nat) (L : Sc) (b : Jvm.Term) : Prop := ∀ (S S0 : List Rw) (ρ : Rho) (v : Mem) (pc i : Nat) (a : Int) (Q : Int → Mem → Prop), S.length = B + sl → S.take B = S0 → AtK v0 pc (coB u n G L b pc) → CM v0 n z dp pc (FB ++ [(B, bk)]) S ρ v → rK ρ ≤ i → i ≤ 420 * rN ρ + a → a ≤ 100 → KY t D v0 n z dp (pc + (coB u n G L b pc).length) FB B bk S0 a Q (evB u n G (v0 14) z cl B L b S ρ) → LLc t D i v Q
/-- a STEP, then an E -/
theorem sb_pre {t : Int} {D : Nat} {v0 : Mem} {u : Nat → Int} {n z dp PC : Nat} {FB : List (Nat × Nat)} {G : Fn} {cl : XC} {M B bk : Nat} {L : Sc} {e : Jvm.Term} (hcl : ∀ ci S ρ, rN ρ ≤ 20000 → okE 1 0 ρ (cl ci S ρ)) (we : wfE (kd u n) false e) (he : SE t D v0 u n z dp (FB ++ [(B, bk)]) G cl M B L 0 e) {S S0 : List Rw} {ρ : Rho} {v : Mem} {pc i : Nat} {a : Int} {Q : Int → Mem → Prop} (hlen : (coE u n G L e (pc + 1)).length ≤ 281) (hT : S.length + tdE 0 e ≤ M) (hB : B + L.length ≤ S.length) (at0 : actAt v0 pc 0 0 0) (at1 : AtK v0 (pc + 1) (coE u n G L e (pc + 1))) (k : CM v0 n z dp pc (FB ++ [(B, bk)]) S ρ v) (h1 : rK ρ ≤ i) (h2 : i ≤ 420 * rN ρ + a) (ha : a ≤ 100) {kk : List Rw → Rho → XS}
    (hK : KY t D v0 n z dp PC FB B bk S0 a Q (stP ρ (fun ρ0 => bES (evE u n G (v0 14) z cl B L e S ρ0) kk)))
    (fin : ∀ x ρ1 v1 i1, KY t D v0 n z dp PC FB B bk S0 a Q (kk [x] ρ1) → CM v0 n z dp (pc + 1 + (coE u n G L e (pc + 1)).length) (FB ++ [(B, bk)]) (S ++ [x]) ρ1 v1 → rK ρ1 ≤ i1 → i1 ≤ 420 * rN ρ1 + (a - 130) → LLc t D i1 v1 Q) : LLc t D i v Q := by
  have hN := k.2.2.2.2.1.1
  unfold stP at hK
  refine act_c k h2 (by omega) (at_step k at0 (fun hn v' k' => ?_) (fun hn v' c' => ?_))
  · rw [if_neg (by omega)] at hK
    refine he S (wN ρ (rN ρ + 1)) v' (pc + 1) (i + 1) (a - 419) Q hB (by omega) at1 (by omega) k' (by show rK ρ ≤ i + 1; omega) (by show ((i + 1 : Nat) : Int) ≤ 420 * ((rN ρ + 1 : Nat) : Int) + (a - 419); omega) (hK.toE (fun q ρ1 er hk v1 i1 k1 c1 c2 => ?_))
    have ok := (evE_ok (tx := v0 14) (z := z) (B := B) (L := L) (G := G) hcl _ e (Nat.lt_succ_self _)).1 we S (wN ρ (rN ρ + 1)) k'.2.2.2.2.1.1
    rw [er] at ok
    obtain ⟨x, hx⟩ := one1' ok.1
    subst hx
    exact fin x ρ1 v1 i1 hk k1 c1 (by omega)
  · rw [if_pos hn] at hK
    exact end_c c' (by decide) (hK v' c')
/-- an S that is a STEP, an E, one act, BEHIND -/
theorem sb_one {t : Int} {D : Nat} {v0 : Mem} {u : Nat → Int} {n z dp : Nat} {FB : List (Nat × Nat)} {G : Fn} {cl : XC} {M B bk sl : Nat} {L : Sc} {e s : Jvm.Term} (hcl : ∀ ci S ρ, rN ρ ≤ 20000 → okE 1 0 ρ (cl ci S ρ)) (we : wfE (kd u n) false e) (he : SE t D v0 u n z dp (FB ++ [(B, bk)]) G cl M B L 0 e) (hlen : ∀ pc, (coE u n G L e pc).length ≤ 281) (hT : B + sl + tdE 0 e ≤ M) (hB : L.length ≤ sl) {x y w : Int} {kk : List Rw → List Rw → Rho → XS} (hac : ∀ pc, coB u n G L s pc = (0, 0, 0) :: (coE u n G L e (pc + 1) ++ [(x, y, w), (1, 0, 0)])) (hev : ∀ S ρ, evB u n G (v0 14) z cl B L s S ρ = stP ρ (fun ρ0 => bES (evE u n G (v0 14) z cl B L e S ρ0) (kk S)))
    (fin : ∀ (S S0 : List Rw) (r : Rw) (ρ1 : Rho) (v1 : Mem) (i1 pc1 : Nat) (a : Int) (Q : Int → Mem → Prop), S.length = B + sl → S.take B = S0 → actAt v0 pc1 x y w → KY t D v0 n z dp (pc1 + 1) FB B bk S0 (a - 1) Q (kk S [r] ρ1) → CM v0 n z dp pc1 (FB ++ [(B, bk)]) (S ++ [r]) ρ1 v1 → rK ρ1 ≤ i1 → i1 ≤ 420 * rN ρ1 + (a - 130) → a ≤ 100 → LLc t D i1 v1 Q) : SB t D v0 u n z dp FB G cl B bk sl L s := by
  intro S S0 ρ v pc i a Q hS h0 hat k h1 h2 ha hK
  rw [hac] at hat hK
  rw [hev] at hK
  have at0 := hat.act
  obtain ⟨at1, at2⟩ := hat.tl.app
  have hpc : pc + ((0, 0, 0) :: (coE u n G L e (pc + 1) ++ [(x, y, w), (1, 0, 0)]) : Ac).length = pc + 1 + (coE u n G L e (pc + 1)).length + 1 + 1 := by
    rw [List.length_cons, List.length_append]
    show pc + (_ + 2 + 1) = _
    omega
  rw [hpc] at hK
  refine sb_pre hcl we he (hlen (pc + 1)) (by omega) (by omega) at0 at1 k h1 h2 ha hK (fun r ρ1 v1 i1 hk k1 c1 c2 => ?_)
  exact fin S S0 r ρ1 v1 i1 _ a Q hS h0 at2.act (hk.look at2.tl.act (by omega)) k1 c1 c2 ha
theorem ev_elem {u : Nat → Int} {n : Nat} {G : Fn} {tx : Nat → Int} {z : Nat} {cl : XC} {B w : Nat} {L : Sc} {e b c : Jvm.Term} {S : List Rw} {ρ : Rho} (h : ¬ kd u n w = 25) : evB u n G tx z cl B L (.elem (.arg w) (.sub e (.sub b c))) S ρ = stP ρ (fun ρ0 => bES (evE u n G tx z cl B L e S ρ0) (fun q ρ1 =>
      if kd u n w = 19 then okW (S.set (B + L.length) (g2 q 0)) ρ1
      else if kd u n w = 2 then okW (S.set (B + (slt L (vl u n w)).toNat) (g2 q 0)) ρ1
      else if kd u n w = 22 then .ok (true, [g2 q 0], wH ρ1 (gc (S.take B ++ [g2 q 0]) z0 (rH ρ1)))
      else if kd u n w = 21 then (if tyE u n G L e = 0 then tlE S (dcl (g2 q 0).2.1) (dch (g2 q 0).2.1) ρ1 else tlE S (g2 q 0).2.2.toNat (fun j => bt tx (rB ρ1) ((g2 q 0).2.1.toNat + j)) ρ1)
      else if kd u n w = 12 then okW S ρ1
      else if (g2 q 0).2.1 = 0 then bS (evB u n G tx z cl B L c S (wH ρ1 (gc S z0 (rH ρ1)))) (fun S1 ρ2 => clE B L (scB u n G L c) S1 ρ2)
      else bS (evB u n G tx z cl B L b S (wH ρ1 (gc S z0 (rH ρ1)))) (fun S1 ρ2 => clE B L (scB u n G L b) S1 ρ2))) := by
  show stP ρ (fun ρ0 => if kd u n w = 25 then _ else _) = _
  congr 1
  funext ρ0
  rw [if_neg h]
theorem sb_let {t : Int} {D : Nat} {v0 : Mem} {u : Nat → Int} {n z dp : Nat} {FB : List (Nat × Nat)} {G : Fn} {cl : XC} {M B bk sl w : Nat} {L : Sc} {e b : Jvm.Term} (hcl : ∀ ci S ρ, rN ρ ≤ 20000 → okE 1 0 ρ (cl ci S ρ)) (we : wfE (kd u n) false e) (he : SE t D v0 u n z dp (FB ++ [(B, bk)]) G cl M B L 0 e) (hlen : ∀ pc, (coE u n G L e pc).length ≤ 281) (hT : B + sl + tdE 0 e ≤ M) (hB : L.length < sl) (k19 : kd u n w = 19) : SB t D v0 u n z dp FB G cl B bk sl L (.elem (.arg w) (.sub e (.sub b .thrown))) := by
  refine sb_one (kk := fun S q ρ1 => okW (S.set (B + L.length) (g2 q 0)) ρ1) hcl we he hlen hT (by omega) (x := 10) (y := (L.length : Int)) (w := 0) (fun pc => ?_) (fun S ρ => ?_) (fun S S0 r ρ1 v1 i1 pc1 a Q hS h0 at1 hk k1 c1 c2 ha => ?_)
  · show (if kd u n w = 19 then _ else _) = _
    rw [if_pos k19]
  · rw [ev_elem (by omega)]
    congr 1
    funext ρ0
    congr 1
    funext q ρ1
    rw [if_pos k19]
  · exact act_c k1 c2 (by omega) (at_give k1 at1 (by omega) (fun v' k' => hk v' (i1 + 1) k' (by show rK ρ1 ≤ i1 + 1; omega) (by show ((i1 + 1 : Nat) : Int) ≤ 420 * ((rN ρ1 : Nat) : Int) + _; omega)))
theorem sb_give {t : Int} {D : Nat} {v0 : Mem} {u : Nat → Int} {n z dp : Nat} {FB : List (Nat × Nat)} {G : Fn} {cl : XC} {M B bk sl w : Nat} {L : Sc} {e b : Jvm.Term} (hcl : ∀ ci S ρ, rN ρ ≤ 20000 → okE 1 0 ρ (cl ci S ρ)) (we : wfE (kd u n) false e) (he : SE t D v0 u n z dp (FB ++ [(B, bk)]) G cl M B L 0 e) (hlen : ∀ pc, (coE u n G L e pc).length ≤ 281) (hT : B + sl + tdE 0 e ≤ M) (hB : L.length ≤ sl) (k2 : kd u n w = 2) (hsl : ¬ slt L (vl u n w) = -1) : SB t D v0 u n z dp FB G cl B bk sl L (.elem (.arg w) (.sub e (.sub b .thrown))) := by
  obtain ⟨j, g1, g4⟩ : ∃ j : Nat, slt L (vl u n w) = (j : Int) ∧ j < L.length := by
    rcases fndA_r (fun k => (L.getD k (0, 0)).1) (vl u n w) L.length 0 with g | ⟨j, g1, g3, g4, -⟩
    · exact absurd g hsl
    · exact ⟨j, g1, by omega⟩
  refine sb_one (kk := fun S q ρ1 => okW (S.set (B + j) (g2 q 0)) ρ1) hcl we he hlen hT (by omega) (x := 10) (y := (j : Int)) (w := 0) (fun pc => ?_) (fun S ρ => ?_) (fun S S0 r ρ1 v1 i1 pc1 a Q hS h0 at1 hk k1 c1 c2 ha => ?_)
  · show (if kd u n w = 19 then _ else if kd u n w = 2 then _ else _) = _
    rw [if_neg (by omega), if_pos k2, g1]
  · rw [ev_elem (by omega)]
    congr 1
    funext ρ0
    congr 1
    funext q ρ1
    rw [if_neg (by omega), if_pos k2, g1, Int.toNat_natCast]
  · exact act_c k1 c2 (by omega) (at_give k1 at1 (by omega) (fun v' k' => hk v' (i1 + 1) k' (by show rK ρ1 ≤ i1 + 1; omega) (by show ((i1 + 1 : Nat) : Int) ≤ 420 * ((rN ρ1 : Nat) : Int) + _; omega)))
theorem sb_ret {t : Int} {D : Nat} {v0 : Mem} {u : Nat → Int} {n z dp : Nat} {FB : List (Nat × Nat)} {G : Fn} {cl : XC} {M B bk sl w : Nat} {L : Sc} {e b : Jvm.Term} (hcl : ∀ ci S ρ, rN ρ ≤ 20000 → okE 1 0 ρ (cl ci S ρ)) (we : wfE (kd u n) false e) (he : SE t D v0 u n z dp (FB ++ [(B, bk)]) G cl M B L 0 e) (hlen : ∀ pc, (coE u n G L e pc).length ≤ 281) (hT : B + sl + tdE 0 e ≤ M) (hB : L.length ≤ sl) (k22 : kd u n w = 22) : SB t D v0 u n z dp FB G cl B bk sl L (.elem (.arg w) (.sub e (.sub b .thrown))) := by
  refine sb_one (kk := fun S q ρ1 => .ok (true, [g2 q 0], wH ρ1 (gc (S.take B ++ [g2 q 0]) z0 (rH ρ1)))) hcl we he hlen hT (by omega) (x := 6) (y := 0) (w := 0) (fun pc => ?_) (fun S ρ => ?_) (fun S S0 r ρ1 v1 i1 pc1 a Q hS h0 at1 hk k1 c1 c2 ha => ?_)
  · show (if kd u n w = 19 then _ else if kd u n w = 2 then _ else if kd u n w = 22 then _ else _) = _
    rw [if_neg (by omega), if_neg (by omega), if_pos k22]
  · rw [ev_elem (by omega)]
    congr 1
    funext ρ0
    congr 1
    funext q ρ1
    rw [if_neg (by omega), if_neg (by omega), if_pos k22]
  · have e1 : S ++ [r] = S.take B ++ (S.drop B ++ [r]) := by rw [← List.append_assoc, List.take_append_drop]
    rw [e1] at k1
    subst h0
    have hk : (1 ≤ FB.length → ∀ v' i', CM v0 n z dp bk FB (S.take B ++ [r]) (wH ρ1 (gc (S.take B ++ [r]) z0 (rH ρ1))) v' → rK ρ1 ≤ i' → i' ≤ 420 * rN ρ1 + (a - 1) → LLc t D i' v' Q) ∧ (FB.length = 0 → ∀ v', CE v0 z 0 r.2.1 (wH ρ1 (gc (S.take B ++ [r]) z0 (rH ρ1))) v' → Q 0 v') := hk
    exact act_c k1 c2 (by omega) (at_ret k1 at1 (by rw [List.length_take]; omega) (fun hf v' k' => hk.1 hf v' (i1 + 1) k' (by omega) (by omega)) (fun hf v' c' => end_c c' (by decide) (hk.2 hf v' c')))
theorem sb_print {t : Int} {D : Nat} {v0 : Mem} {u : Nat → Int} {n z dp : Nat} {FB : List (Nat × Nat)} {G : Fn} {cl : XC} {M B bk sl w : Nat} {L : Sc} {e b : Jvm.Term} (hn : n ≤ 3000) (hcl : ∀ ci S ρ, rN ρ ≤ 20000 → okE 1 0 ρ (cl ci S ρ)) (we : wfE (kd u n) false e) (he : SE t D v0 u n z dp (FB ++ [(B, bk)]) G cl M B L 0 e) (hlen : ∀ pc, (coE u n G L e pc).length ≤ 281) (hT : B + sl + tdE 0 e ≤ M) (hB : L.length ≤ sl) (k21 : kd u n w = 21) : SB t D v0 u n z dp FB G cl B bk sl L (.elem (.arg w) (.sub e (.sub b .thrown))) := by
  refine sb_one (kk := fun S q ρ1 => if tyE u n G L e = 0 then tlE S (dcl (g2 q 0).2.1) (dch (g2 q 0).2.1) ρ1 else tlE S (g2 q 0).2.2.toNat (fun j => bt (v0 14) (rB ρ1) ((g2 q 0).2.1.toNat + j)) ρ1) hcl we he hlen hT (by omega) (x := 13) (y := tyE u n G L e) (w := 0) (fun pc => ?_) (fun S ρ => ?_) (fun S S0 r ρ1 v1 i1 pc1 a Q hS h0 at1 hk k1 c1 c2 ha => ?_)
  · show (if kd u n w = 19 then _ else if kd u n w = 2 then _ else if kd u n w = 22 then _ else if kd u n w = 21 then _ else _) = _
    rw [if_neg (by omega), if_neg (by omega), if_neg (by omega), if_pos k21]
  · rw [ev_elem (by omega)]
    congr 1
    funext ρ0
    congr 1
    funext q ρ1
    rw [if_neg (by omega), if_neg (by omega), if_neg (by omega), if_pos k21]
  · have key : ∀ (m : Nat) (g : Nat → Int), ((tyE u n G L e = 0 ∧ m = dcl r.2.1 ∧ g = dch r.2.1) ∨ (¬ tyE u n G L e = 0 ∧ m = r.2.2.toNat ∧ g = fun j => bt (v0 14) (rB ρ1) (r.2.1.toNat + j))) → KY t D v0 n z dp (pc1 + 1) FB B bk S0 (a - 1) Q (tlE S m g ρ1) → LLc t D i1 v1 Q := by
      intro m g hmg hk
      unfold tlE at hk
      refine act_c k1 c2 (by omega) (at_print hn k1 at1 hmg (fun hm v' c' => ?_) (fun hm v' k' => ?_))
      · rw [if_pos hm] at hk
        exact end_c c' (by decide) (hk v' c')
      · rw [if_neg (by omega)] at hk
        exact hk v' (i1 + 1) k' (by show rK ρ1 ≤ i1 + 1; omega) (by show ((i1 + 1 : Nat) : Int) ≤ 420 * ((rN ρ1 : Nat) : Int) + _; omega)
    have hk : KY t D v0 n z dp (pc1 + 1) FB B bk S0 (a - 1) Q (if tyE u n G L e = 0 then tlE S (dcl r.2.1) (dch r.2.1) ρ1 else tlE S r.2.2.toNat (fun j => bt (v0 14) (rB ρ1) (r.2.1.toNat + j)) ρ1) := hk
    by_cases c0 : tyE u n G L e = 0
    · rw [if_pos c0] at hk
      exact key _ _ (Or.inl ⟨c0, rfl, rfl⟩) hk
    · rw [if_neg c0] at hk
      exact key _ _ (Or.inr ⟨c0, rfl, rfl⟩) hk
theorem sb_do {t : Int} {D : Nat} {v0 : Mem} {u : Nat → Int} {n z dp : Nat} {FB : List (Nat × Nat)} {G : Fn} {cl : XC} {M B bk sl w : Nat} {L : Sc} {e b : Jvm.Term} (hcl : ∀ ci S ρ, rN ρ ≤ 20000 → okE 1 0 ρ (cl ci S ρ)) (we : wfE (kd u n) false e) (he : SE t D v0 u n z dp (FB ++ [(B, bk)]) G cl M B L 0 e) (hlen : ∀ pc, (coE u n G L e pc).length ≤ 281) (hT : B + sl + tdE 0 e ≤ M) (hB : L.length ≤ sl) (k12 : kd u n w = 12) : SB t D v0 u n z dp FB G cl B bk sl L (.elem (.arg w) (.sub e (.sub b .thrown))) := by
  refine sb_one (kk := fun S q ρ1 => okW S ρ1) hcl we he hlen hT (by omega) (x := 12) (y := 0) (w := 0) (fun pc => ?_) (fun S ρ => ?_) (fun S S0 r ρ1 v1 i1 pc1 a Q hS h0 at1 hk k1 c1 c2 ha => ?_)
  · show (if kd u n w = 19 then _ else if kd u n w = 2 then _ else if kd u n w = 22 then _ else if kd u n w = 21 then _ else if kd u n w = 12 then _ else _) = _
    rw [if_neg (by omega), if_neg (by omega), if_neg (by omega), if_neg (by omega), if_pos k12]
  · rw [ev_elem (by omega)]
    congr 1
    funext ρ0
    congr 1
    funext q ρ1
    rw [if_neg (by omega), if_neg (by omega), if_neg (by omega), if_neg (by omega), if_pos k12]
  · exact act_c k1 c2 (by omega) (at_drop k1 at1 (fun v' k' => hk v' (i1 + 1) k' (by show rK ρ1 ≤ i1 + 1; omega) (by show ((i1 + 1 : Nat) : Int) ≤ 420 * ((rN ρ1 : Nat) : Int) + _; omega)))
