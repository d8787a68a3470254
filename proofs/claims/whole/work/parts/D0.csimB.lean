/-! The class does what S say: BLOCKs, if, while. -/
/-- the class does as a BLOCK says -/
def SK (t : Int) (D : Nat) (v0 : Mem) (u : Nat → Int) (n z dp : Nat) (FB : List (Nat × Nat)) (G : Fn) (cl : XC) (B bk sl : Nat) (L : Sc) (b : Jvm.Term) : Prop := ∀ (S S0 : List Rw) (ρ : Rho) (v : Mem) (pc i : Nat) (a : Int) (Q : Int → Mem → Prop), S.length = B + sl → S.take B = S0 → AtK v0 pc (coB u n G L b pc ++ clr L (scB u n G L b)) → CM v0 n z dp pc (FB ++ [(B, bk)]) S ρ v → rK ρ ≤ i → i ≤ 420 * rN ρ + a → a ≤ 99 → KY t D v0 n z dp (pc + (coB u n G L b pc ++ clr L (scB u n G L b)).length) FB B bk S0 (a + 1) Q (bS (evB u n G (v0 14) z cl B L b S ρ) (fun S1 ρ1 => clE B L (scB u n G L b) S1 ρ1)) → LLc t D i v Q
theorem sk_of {t : Int} {D : Nat} {v0 : Mem} {u : Nat → Int} {n z dp : Nat} {FB : List (Nat × Nat)} {G : Fn} {cl : XC} {B bk sl : Nat} {L : Sc} {b : Jvm.Term} (hcl : ∀ ci S ρ, rN ρ ≤ 20000 → okE 1 0 ρ (cl ci S ρ)) (hb : SB t D v0 u n z dp FB G cl B bk sl L b) (wb : wfS (kd u n) b) {h : Nat} (db : bdS b h) (hsl : (scB u n G L b).length ≤ sl) : SK t D v0 u n z dp FB G cl B bk sl L b := by
  intro S S0 ρ v pc i a Q hS h0 hat k h1 h2 ha hK
  obtain ⟨at1, at2⟩ := hat.app
  have hpc : pc + (coB u n G L b pc ++ clr L (scB u n G L b)).length = pc + (coB u n G L b pc).length + (clr L (scB u n G L b)).length := by
    rw [List.length_append]; omega
  rw [hpc] at hK
  refine hb S S0 ρ v pc i a Q hS h0 at1 k h1 h2 (by omega) (hK.bnd (by omega) (fun S1 ρ1 er hk v1 i1 k1 c1 c2 => ?_))
  have ok := evB_ok (G := G) (tx := v0 14) (z := z) (B := B) hcl _ b (Nat.lt_succ_self _) wb h db L S ρ k.2.2.2.2.1.1
  rw [er] at ok
  have hl : S1.length = S.length := ok.2.1
  obtain ⟨M, hM⟩ := scB_pre (u := u) (n := n) (G := G) b L
  have hLM : L.length ≤ (scB u n G L b).length := by rw [hM, List.length_append]; omega
  by_cases c : L.length < (scB u n G L b).length
  · have e : clr L (scB u n G L b) = [(11, (L.length : Int), (((scB u n G L b).length - L.length : Nat) : Int))] := by
      unfold clr; rw [if_pos c]
    rw [e] at at2 hk
    exact act_c k1 c2 (by omega) (at_clear k1 at2.act (by omega) (fun v' k' => hk v' (i1 + 1) k' (by show rK ρ1 ≤ i1 + 1; omega) (by show ((i1 + 1 : Nat) : Int) ≤ 420 * ((rN ρ1 : Nat) : Int) + _; omega)))
  · have e : clr L (scB u n G L b) = [] := by
      unfold clr; rw [if_neg c]
    rw [e] at hk
    have e2 : clE B L (scB u n G L b) S1 ρ1 = okW S1 ρ1 := by
      unfold clE
      rw [show (scB u n G L b).length - L.length = 0 from by omega]
      rfl
    rw [e2] at hk
    exact hk v1 i1 k1.gcs (by show rK ρ1 ≤ i1; omega) (by show (i1 : Int) ≤ 420 * ((rN ρ1 : Nat) : Int) + _; omega)
theorem clE_same {B : Nat} {L : Sc} {S : List Rw} {ρ : Rho} : clE B L L S ρ = okW S ρ := by
  unfold clE
  rw [Nat.sub_self]
  rfl
theorem ev_if {u : Nat → Int} {n : Nat} {G : Fn} {tx : Nat → Int} {z : Nat} {cl : XC} {B w : Nat} {L : Sc} {e b c : Jvm.Term} {S : List Rw} {ρ : Rho} (h : kd u n w = 16) : evB u n G tx z cl B L (.elem (.arg w) (.sub e (.sub b c))) S ρ = stP ρ (fun ρ0 => bES (evE u n G tx z cl B L e S ρ0) (fun q ρ1 =>
      if (g2 q 0).2.1 = 0 then bS (evB u n G tx z cl B L c S (wH ρ1 (gc S z0 (rH ρ1)))) (fun S1 ρ2 => clE B L (scB u n G L c) S1 ρ2)
      else bS (evB u n G tx z cl B L b S (wH ρ1 (gc S z0 (rH ρ1)))) (fun S1 ρ2 => clE B L (scB u n G L b) S1 ρ2))) := by
  rw [ev_elem (by omega)]
  congr 1
  funext ρ0
  congr 1
  funext q ρ1
  rw [if_neg (by omega), if_neg (by omega), if_neg (by omega), if_neg (by omega), if_neg (by omega)]
theorem sb_if1 {t : Int} {D : Nat} {v0 : Mem} {u : Nat → Int} {n z dp : Nat} {FB : List (Nat × Nat)} {G : Fn} {cl : XC} {M B bk sl w : Nat} {L : Sc} {e b : Jvm.Term} (hcl : ∀ ci S ρ, rN ρ ≤ 20000 → okE 1 0 ρ (cl ci S ρ)) (we : wfE (kd u n) false e) (he : SE t D v0 u n z dp (FB ++ [(B, bk)]) G cl M B L 0 e) (hlen : ∀ pc, (coE u n G L e pc).length ≤ 281) (hT : B + sl + tdE 0 e ≤ M) (hB : L.length ≤ sl) (hb : SK t D v0 u n z dp FB G cl B bk sl L b) (k16 : kd u n w = 16) : SB t D v0 u n z dp FB G cl B bk sl L (.elem (.arg w) (.sub e (.sub b .thrown))) := by
  intro S S0 ρ v pc i a Q hS h0 hat k h1 h2 ha hK
  generalize hE : coE u n G L e (pc + 1) = E at *
  generalize hBk : coB u n G L b (pc + 1 + E.length + 1) ++ clr L (scB u n G L b) = Bk at *
  have hac : coB u n G L (.elem (.arg w) (.sub e (.sub b .thrown))) pc = (0, 0, 0) :: (E ++ (3, ((pc + 1 + E.length + 1 + Bk.length : Nat) : Int), 0) :: (Bk ++ [(1, 0, 0)])) := by
    rw [← hBk, ← hE]
    show (if kd u n w = 19 then _ else if kd u n w = 2 then _ else if kd u n w = 22 then _ else if kd u n w = 21 then _ else if kd u n w = 12 then _ else if kd u n w = 25 then _ else _) = _
    rw [if_neg (by omega), if_neg (by omega), if_neg (by omega), if_neg (by omega), if_neg (by omega), if_neg (by omega)]
  rw [hac] at hat hK
  rw [ev_if k16] at hK
  have at0 := hat.act
  obtain ⟨at1, at2⟩ := hat.tl.app
  have at3 := at2.act
  obtain ⟨at4, at5⟩ := at2.tl.app
  have hpc : pc + ((0, 0, 0) :: (E ++ (3, ((pc + 1 + E.length + 1 + Bk.length : Nat) : Int), 0) :: (Bk ++ [(1, 0, 0)])) : Ac).length = pc + 1 + E.length + 1 + Bk.length + 1 := by
    rw [List.length_cons, List.length_append, List.length_cons, List.length_append]
    show pc + (_ + (_ + 1 + 1) + 1) = _
    omega
  rw [hpc] at hK
  subst hE
  refine sb_pre hcl we he (hlen (pc + 1)) (by omega) (by omega) at0 at1 k h1 h2 ha hK (fun x ρ1 v1 i1 hk k1 c1 c2 => ?_)
  have hk := hk.look at5.act (by omega)
  have hk : KY t D v0 n z dp (pc + 1 + (coE u n G L e (pc + 1)).length + 1 + Bk.length) FB B bk S0 (a - 1) Q (if x.2.1 = 0 then bS (evB u n G (v0 14) z cl B L .thrown S (wH ρ1 (gc S z0 (rH ρ1)))) (fun S1 ρ2 => clE B L (scB u n G L .thrown) S1 ρ2) else bS (evB u n G (v0 14) z cl B L b S (wH ρ1 (gc S z0 (rH ρ1)))) (fun S1 ρ2 => clE B L (scB u n G L b) S1 ρ2)) := hk
  refine act_c k1 c2 (by omega) (at_jz k1 at3 (fun v' k' => ?_))
  by_cases c0 : x.2.1 = 0
  · rw [if_pos c0] at hk k'
    have hk : KY t D v0 n z dp (pc + 1 + (coE u n G L e (pc + 1)).length + 1 + Bk.length) FB B bk S0 (a - 1) Q (clE B L L S (wH ρ1 (gc S z0 (rH ρ1)))) := hk
    rw [clE_same] at hk
    exact hk v' (i1 + 1) k'.gcs (by show rK ρ1 ≤ i1 + 1; omega) (by show ((i1 + 1 : Nat) : Int) ≤ 420 * ((rN ρ1 : Nat) : Int) + _; omega)
  · rw [if_neg c0] at hk k'
    subst hBk
    exact hb S S0 _ v' _ (i1 + 1) (a - 129) Q hS h0 at4 k' (by show rK ρ1 ≤ i1 + 1; omega) (by show ((i1 + 1 : Nat) : Int) ≤ 420 * ((rN ρ1 : Nat) : Int) + _; omega) (by omega) (hk.less (by omega))
theorem sb_if2 {t : Int} {D : Nat} {v0 : Mem} {u : Nat → Int} {n z dp : Nat} {FB : List (Nat × Nat)} {G : Fn} {cl : XC} {M B bk sl w : Nat} {L : Sc} {e b c : Jvm.Term} (hcl : ∀ ci S ρ, rN ρ ≤ 20000 → okE 1 0 ρ (cl ci S ρ)) (we : wfE (kd u n) false e) (he : SE t D v0 u n z dp (FB ++ [(B, bk)]) G cl M B L 0 e) (hlen : ∀ pc, (coE u n G L e pc).length ≤ 281) (hT : B + sl + tdE 0 e ≤ M) (hB : L.length ≤ sl) (hb : SK t D v0 u n z dp FB G cl B bk sl L b) (hc : SK t D v0 u n z dp FB G cl B bk sl L c) (hc0 : c = .null ∨ ∃ x y, c = .sub x y) (k16 : kd u n w = 16) : SB t D v0 u n z dp FB G cl B bk sl L (.elem (.arg w) (.sub e (.sub b c))) := by
  intro S S0 ρ v pc i a Q hS h0 hat k h1 h2 ha hK
  generalize hE : coE u n G L e (pc + 1) = E at *
  generalize hBk : coB u n G L b (pc + 1 + E.length + 1) ++ clr L (scB u n G L b) = Bk at *
  generalize hCk : coB u n G L c (pc + 1 + E.length + 1 + Bk.length + 1) ++ clr L (scB u n G L c) = Ck at *
  have hac : coB u n G L (.elem (.arg w) (.sub e (.sub b c))) pc = (0, 0, 0) :: (E ++ (3, ((pc + 1 + E.length + 1 + Bk.length + 1 : Nat) : Int), 0) :: (Bk ++ (2, ((pc + 1 + E.length + 1 + Bk.length + 1 + Ck.length : Nat) : Int), 0) :: (Ck ++ [(1, 0, 0)]))) := by
    rw [← hCk, ← hBk, ← hE]
    rcases hc0 with rfl | ⟨x, y, rfl⟩
    · show (if kd u n w = 19 then _ else if kd u n w = 2 then _ else if kd u n w = 22 then _ else if kd u n w = 21 then _ else if kd u n w = 12 then _ else if kd u n w = 25 then _ else _) = _
      rw [if_neg (by omega), if_neg (by omega), if_neg (by omega), if_neg (by omega), if_neg (by omega), if_neg (by omega)]
    · show (if kd u n w = 19 then _ else if kd u n w = 2 then _ else if kd u n w = 22 then _ else if kd u n w = 21 then _ else if kd u n w = 12 then _ else if kd u n w = 25 then _ else _) = _
      rw [if_neg (by omega), if_neg (by omega), if_neg (by omega), if_neg (by omega), if_neg (by omega), if_neg (by omega)]
  rw [hac] at hat hK
  rw [ev_if k16] at hK
  have at0 := hat.act
  obtain ⟨at1, at2⟩ := hat.tl.app
  have at3 := at2.act
  obtain ⟨at4, at5⟩ := at2.tl.app
  have at6 := at5.act
  obtain ⟨at7, at8⟩ := at5.tl.app
  have hpc : pc + ((0, 0, 0) :: (E ++ (3, ((pc + 1 + E.length + 1 + Bk.length + 1 : Nat) : Int), 0) :: (Bk ++ (2, ((pc + 1 + E.length + 1 + Bk.length + 1 + Ck.length : Nat) : Int), 0) :: (Ck ++ [(1, 0, 0)]))) : Ac).length = pc + 1 + E.length + 1 + Bk.length + 1 + Ck.length + 1 := by
    rw [List.length_cons, List.length_append, List.length_cons, List.length_append, List.length_cons, List.length_append]
    show pc + (_ + (_ + (_ + 1 + 1) + 1) + 1) = _
    omega
  rw [hpc] at hK
  subst hE
  refine sb_pre hcl we he (hlen (pc + 1)) (by omega) (by omega) at0 at1 k h1 h2 ha hK (fun x ρ1 v1 i1 hk k1 c1 c2 => ?_)
  have hk := hk.look at8.act (by omega)
  have hk : KY t D v0 n z dp (pc + 1 + (coE u n G L e (pc + 1)).length + 1 + Bk.length + 1 + Ck.length) FB B bk S0 (a - 1) Q (if x.2.1 = 0 then bS (evB u n G (v0 14) z cl B L c S (wH ρ1 (gc S z0 (rH ρ1)))) (fun S1 ρ2 => clE B L (scB u n G L c) S1 ρ2) else bS (evB u n G (v0 14) z cl B L b S (wH ρ1 (gc S z0 (rH ρ1)))) (fun S1 ρ2 => clE B L (scB u n G L b) S1 ρ2)) := hk
  refine act_c k1 c2 (by omega) (at_jz k1 at3 (fun v' k' => ?_))
  by_cases c0 : x.2.1 = 0
  · rw [if_pos c0] at hk k'
    subst hCk
    exact hc S S0 _ v' _ (i1 + 1) (a - 129) Q hS h0 at7 k' (by show rK ρ1 ≤ i1 + 1; omega) (by show ((i1 + 1 : Nat) : Int) ≤ 420 * ((rN ρ1 : Nat) : Int) + _; omega) (by omega) (hk.less (by omega))
  · rw [if_neg c0] at hk k'
    have hk := hk.jump at6 (by omega)
    subst hBk
    exact hb S S0 _ v' _ (i1 + 1) (a - 129) Q hS h0 at4 k' (by show rK ρ1 ≤ i1 + 1; omega) (by show ((i1 + 1 : Nat) : Int) ≤ 420 * ((rN ρ1 : Nat) : Int) + _; omega) (by omega) (hk.less (by omega))
theorem bS_bES {r : XE} {k : List Rw → Rho → XS} : bS (bES r (fun q ρ1 => .ok (false, q, ρ1))) k = bES r k := by
  match r with
  | .error e => rfl
  | .ok (q, ρ1) => rfl
theorem whl_lp {t : Int} {D : Nat} {v0 : Mem} {u : Nat → Int} {n z dp : Nat} {FB : List (Nat × Nat)} {G : Fn} {cl : XC} {M B bk sl : Nat} {L : Sc} {e b : Jvm.Term} (hcl : ∀ ci S ρ, rN ρ ≤ 20000 → okE 1 0 ρ (cl ci S ρ)) (we : wfE (kd u n) false e) (he : SE t D v0 u n z dp (FB ++ [(B, bk)]) G cl M B L 0 e) (hT : B + sl + tdE 0 e ≤ M) (hB : L.length ≤ sl) (hb : SK t D v0 u n z dp FB G cl B bk sl L b) (wb : wfS (kd u n) b) {h : Nat} (db : bdS b h) {S0 : List Rw} {a : Int} {Q : Int → Mem → Prop} {p0 : Nat} {E Bk : Ac} (hE : coE u n G L e p0 = E) (hBk : coB u n G L b (p0 + E.length + 1 + 1) ++ clr L (scB u n G L b) = Bk) (hlen : E.length ≤ 281) (at1 : AtK v0 p0 E) (at3 : actAt v0 (p0 + E.length) 3 ((p0 + E.length + 1 + 1 + Bk.length + 1 : Nat) : Int) 0) (at4 : actAt v0 (p0 + E.length + 1) 0 0 0) (at5 : AtK v0 (p0 + E.length + 1 + 1) Bk) (at6 : actAt v0 (p0 + E.length + 1 + 1 + Bk.length) 2 (p0 : Int) 0) (ha : a ≤ 100) : ∀ (k : Nat) (S : List Rw) (ρ : Rho) (v : Mem) (i : Nat), 20000 < rN ρ + k → S.length = B + sl → S.take B = S0 → CM v0 n z dp p0 (FB ++ [(B, bk)]) S ρ v → rK ρ ≤ i → i ≤ 420 * rN ρ + (a - 419) → KY t D v0 n z dp (p0 + E.length + 1 + 1 + Bk.length + 1) FB B bk S0 (a - 1) Q (whl (fun S ρ => bES (evE u n G (v0 14) z cl B L e S ρ) (fun q ρ1 => .ok (false, q, ρ1))) (fun S ρ => bS (evB u n G (v0 14) z cl B L b S ρ) (fun S1 ρ1 => clE B L (scB u n G L b) S1 ρ1)) k S ρ) → LLc t D i v Q := by
  intro k
  induction k with
  | zero =>
    intro S ρ v i hk hS h0 c h1 h2 hK
    have := c.2.2.2.2.1.1
    omega
  | succ k ih =>
    intro S ρ v i hk hS h0 c h1 h2 hK
    have hK : KY t D v0 n z dp (p0 + E.length + 1 + 1 + Bk.length + 1) FB B bk S0 (a - 1) Q (bS (bES (evE u n G (v0 14) z cl B L e S ρ) (fun q ρ1 => .ok (false, q, ρ1))) (fun q ρ1 => if (g2 q 0).2.1 = 0 then okW S ρ1 else stP (wH ρ1 (gc S z0 (rH ρ1))) (fun ρ2 => bS (bS (evB u n G (v0 14) z cl B L b S ρ2) (fun S1 ρ1 => clE B L (scB u n G L b) S1 ρ1)) (fun S1 ρ3 => whl (fun S ρ => bES (evE u n G (v0 14) z cl B L e S ρ) (fun q ρ1 => .ok (false, q, ρ1))) (fun S ρ => bS (evB u n G (v0 14) z cl B L b S ρ) (fun S1 ρ1 => clE B L (scB u n G L b) S1 ρ1)) k S1 ρ3)))) := hK
    rw [bS_bES] at hK
    subst hE
    refine he S ρ v p0 i (a - 419) Q (by omega) (by omega) at1 (by omega) c h1 h2 (hK.toE (fun q ρ1 er hk1 v1 i1 k1 c1 c2 => ?_))
    have ok := (evE_ok (tx := v0 14) (z := z) (B := B) (L := L) (G := G) hcl _ e (Nat.lt_succ_self _)).1 we S ρ c.2.2.2.2.1.1
    rw [er] at ok
    obtain ⟨x, hx⟩ := one1' ok.1
    subst hx
    have okN : rN ρ ≤ rN ρ1 := ok.2.1
    have hN1 := k1.2.2.2.2.1.1
    have hk1 : KY t D v0 n z dp (p0 + (coE u n G L e p0).length + 1 + 1 + Bk.length + 1) FB B bk S0 (a - 1) Q (if x.2.1 = 0 then okW S ρ1 else stP (wH ρ1 (gc S z0 (rH ρ1))) (fun ρ2 => bS (bS (evB u n G (v0 14) z cl B L b S ρ2) (fun S1 ρ1 => clE B L (scB u n G L b) S1 ρ1)) (fun S1 ρ3 => whl (fun S ρ => bES (evE u n G (v0 14) z cl B L e S ρ) (fun q ρ1 => .ok (false, q, ρ1))) (fun S ρ => bS (evB u n G (v0 14) z cl B L b S ρ) (fun S1 ρ1 => clE B L (scB u n G L b) S1 ρ1)) k S1 ρ3))) := hk1
    refine act_c k1 c2 (by omega) (at_jz k1 at3 (fun v' k' => ?_))
    by_cases c0 : x.2.1 = 0
    · rw [if_pos c0] at hk1 k'
      exact hk1 v' (i1 + 1) k' (by show rK ρ1 ≤ i1 + 1; omega) (by show ((i1 + 1 : Nat) : Int) ≤ 420 * ((rN ρ1 : Nat) : Int) + _; omega)
    · rw [if_neg c0] at hk1 k'
      unfold stP at hk1
      refine act_c (a := a - 130) k' (by show ((i1 + 1 : Nat) : Int) ≤ 420 * ((rN ρ1 : Nat) : Int) + _; omega) (by omega) (at_step k' at4 (fun hn v2 k2 => ?_) (fun hn v2 c2' => ?_))
      · have hn : rN ρ1 < 20000 := hn
        rw [if_neg (by show ¬ rN ρ1 = 20000; omega)] at hk1
        subst hBk
        refine hb S S0 _ v2 _ (i1 + 1 + 1) (a - 419 - 137) Q hS h0 at5 k2 (by show rK ρ1 ≤ i1 + 1 + 1; omega) (by show ((i1 + 1 + 1 : Nat) : Int) ≤ 420 * ((rN ρ1 + 1 : Nat) : Int) + _; omega) (by omega) (hk1.bnd (by omega) (fun S1 ρ3 er3 hk3 v3 i3 k3 d1 d2 => ?_))
        have ok3 := evK_ok (G := G) (tx := v0 14) (z := z) (B := B) hcl wb db (L := L) (S := S) (ρ := wN (wH ρ1 (gc S z0 (rH ρ1))) (rN ρ1 + 1)) (by show rN ρ1 + 1 ≤ 20000; omega)
        have er3 : evK u n G (v0 14) z cl B L b S (wN (wH ρ1 (gc S z0 (rH ρ1))) (rN ρ1 + 1)) = .ok (false, S1, ρ3) := er3
        rw [er3] at ok3
        obtain ⟨⟨g1, g2, g3⟩, g4, g5⟩ := ok3
        have g1 : rN ρ1 + 1 ≤ rN ρ3 := g1
        exact act_c k3 d2 (by omega) (at_jump k3 at6 (fun v4 k4 => ih S1 ρ3 v4 (i3 + 1) (by omega) (by omega) (g5.trans h0) k4 (by omega) (by omega) hk3))
      · rw [if_pos hn] at hk1
        exact end_c c2' (by decide) (hk1 v2 c2')
theorem ev_while {u : Nat → Int} {n : Nat} {G : Fn} {tx : Nat → Int} {z : Nat} {cl : XC} {B w : Nat} {L : Sc} {e b c : Jvm.Term} {S : List Rw} {ρ : Rho} (h : kd u n w = 25) : evB u n G tx z cl B L (.elem (.arg w) (.sub e (.sub b c))) S ρ = stP ρ (fun ρ0 => whl (fun S ρ => bES (evE u n G tx z cl B L e S ρ) (fun q ρ1 => .ok (false, q, ρ1))) (fun S ρ => bS (evB u n G tx z cl B L b S ρ) (fun S1 ρ1 => clE B L (scB u n G L b) S1 ρ1)) 20001 S ρ0) := by
  show stP ρ (fun ρ0 => if kd u n w = 25 then _ else _) = _
  congr 1
  funext ρ0
  rw [if_pos h]
theorem sb_while {t : Int} {D : Nat} {v0 : Mem} {u : Nat → Int} {n z dp : Nat} {FB : List (Nat × Nat)} {G : Fn} {cl : XC} {M B bk sl w : Nat} {L : Sc} {e b : Jvm.Term} (hcl : ∀ ci S ρ, rN ρ ≤ 20000 → okE 1 0 ρ (cl ci S ρ)) (we : wfE (kd u n) false e) (he : SE t D v0 u n z dp (FB ++ [(B, bk)]) G cl M B L 0 e) (hlen : ∀ pc, (coE u n G L e pc).length ≤ 281) (hT : B + sl + tdE 0 e ≤ M) (hB : L.length ≤ sl) (hb : SK t D v0 u n z dp FB G cl B bk sl L b) (wb : wfS (kd u n) b) {h : Nat} (db : bdS b h) (k25 : kd u n w = 25) : SB t D v0 u n z dp FB G cl B bk sl L (.elem (.arg w) (.sub e (.sub b .thrown))) := by
  intro S S0 ρ v pc i a Q hS h0 hat k h1 h2 ha hK
  generalize hE : coE u n G L e (pc + 1) = E at *
  generalize hBk : coB u n G L b (pc + 1 + E.length + 1 + 1) ++ clr L (scB u n G L b) = Bk at *
  have hac : coB u n G L (.elem (.arg w) (.sub e (.sub b .thrown))) pc = (0, 0, 0) :: (E ++ (3, ((pc + 1 + E.length + 1 + 1 + Bk.length + 1 : Nat) : Int), 0) :: (0, 0, 0) :: (Bk ++ [(2, ((pc + 1 : Nat) : Int), 0), (1, 0, 0)])) := by
    rw [← hBk, ← hE]
    show (if kd u n w = 19 then _ else if kd u n w = 2 then _ else if kd u n w = 22 then _ else if kd u n w = 21 then _ else if kd u n w = 12 then _ else if kd u n w = 25 then _ else _) = _
    rw [if_neg (by omega), if_neg (by omega), if_neg (by omega), if_neg (by omega), if_neg (by omega), if_pos k25]
  rw [hac] at hat hK
  rw [ev_while k25] at hK
  have at0 := hat.act
  obtain ⟨at1, at2⟩ := hat.tl.app
  have at3 := at2.act
  have at4 := at2.tl.act
  obtain ⟨at5, at56⟩ := at2.tl.tl.app
  have at6 := at56.act
  have at7 := at56.tl.act
  have hpc : pc + ((0, 0, 0) :: (E ++ (3, ((pc + 1 + E.length + 1 + 1 + Bk.length + 1 : Nat) : Int), 0) :: (0, 0, 0) :: (Bk ++ [(2, ((pc + 1 : Nat) : Int), 0), (1, 0, 0)])) : Ac).length = pc + 1 + E.length + 1 + 1 + Bk.length + 1 + 1 := by
    rw [List.length_cons, List.length_append, List.length_cons, List.length_cons, List.length_append]
    show pc + (_ + (_ + 2 + 1 + 1) + 1) = _
    omega
  rw [hpc] at hK
  have hN := k.2.2.2.2.1.1
  have hlE : E.length ≤ 281 := by rw [← hE]; exact hlen _
  unfold stP at hK
  refine act_c k h2 (by omega) (at_step k at0 (fun hn v' k' => ?_) (fun hn v' c' => ?_))
  · rw [if_neg (by omega)] at hK
    exact whl_lp (M := M) (a := a) hcl we he hT hB hb wb db hE hBk hlE at1 at3 at4 at5 at6 (by omega) 20001 S (wN ρ (rN ρ + 1)) v' (i + 1) (by show 20000 < rN ρ + 1 + 20001; omega) hS h0 k' (by show rK ρ ≤ i + 1; omega) (by show ((i + 1 : Nat) : Int) ≤ 420 * ((rN ρ + 1 : Nat) : Int) + _; omega) (hK.look at7 (by omega))
  · rw [if_pos hn] at hK
    exact end_c c' (by decide) (hK v' c')
/-- THE CLASS DOES AS S SAY -/
theorem SB_all {t : Int} {D : Nat} {v0 : Mem} {u : Nat → Int} {b0 : Nat → Int} {n z dp : Nat} {FB : List (Nat × Nat)} {G : Fn} {cl : XC} {M B bk sl : Nat} (hn : n ≤ 3000) (hu : u = uB b0 n) (hM : M ≤ 1400) (h6 : P6 G) (hcl : ∀ ci S ρ, rN ρ ≤ 20000 → okE 1 0 ρ (cl ci S ρ)) (hsc : SC t D v0 n z dp (FB ++ [(B, bk)]) G cl M) (hT : B + sl + 73 ≤ M) : ∀ (N : Nat) (b : Jvm.Term), SizeOf.sizeOf b < N → wfS (kd u n) b → ∀ h, bdS b h → ∀ (L : Sc) (m : Nat), nfB u n G L b = [] → L.length ≤ m → mxB u n G m L b ≤ sl → SB t D v0 u n z dp FB G cl B bk sl L b := by
  intro N
  induction N with
  | zero => intro e he; exact absurd he (Nat.not_lt_zero _)
  | succ N ih =>
    intro b hsz hw h hd L m hnf hLm hmx
    have nil : evB u n G (v0 14) z cl B L b = (fun S ρ => .ok (false, S, ρ)) → (∀ pc, coB u n G L b pc = []) → SB t D v0 u n z dp FB G cl B bk sl L b := by
      intro e1 e2 S S0 ρ v pc i a Q hS h0 hat k h1 h2 ha hK
      rw [e1, e2] at hK
      exact hK v i k h1 h2
    unfold wfS at hw
    split at hw
    · exact nil rfl (fun _ => rfl)
    · exact nil rfl (fun _ => rfl)
    · rename_i w e b c r
      obtain ⟨w1, w2, w3, w4, w5, w6, w7, w8, w9⟩ := hw
      have hd : ((sgn e ≤ 40 ∧ brk e ≤ 8) ∧ ∃ j, h = j + 1 ∧ bdS b j ∧ bdS c j) ∧ bdS r h := hd
      obtain ⟨⟨⟨d1, d2⟩, j, d3, d4, d5⟩, d6⟩ := hd
      have hmx : mxB u n G (if kd u n w = 19 then max m (L.length + 1) else mxB u n G (mxB u n G m L b) L c) (scB u n G L (.elem (.arg w) (.sub e (.sub b c)))) r ≤ sl := hmx
      have hnf : nfB u n G L (.elem (.arg w) (.sub e (.sub b c))) ++ nfB u n G (scB u n G L (.elem (.arg w) (.sub e (.sub b c)))) r = [] := hnf
      obtain ⟨nf1, nf2⟩ := List.append_eq_nil_iff.mp hnf
      have nf1 : (if kd u n w = 19 then (if slt L (vl u n (w + 1)) = -1 then [] else [ps u n (w + 1)]) ++ nfE u n G L e else if kd u n w = 2 then (if slt L (vl u n w) = -1 then [ps u n w] else []) ++ nfE u n G L e else nfE u n G L e ++ (nfB u n G L b ++ nfB u n G L c)) = [] := nf1
      have gm := mxB_ge (u := u) (n := n) (G := G) _ r (Nat.lt_succ_self _) (if kd u n w = 19 then max m (L.length + 1) else mxB u n G (mxB u n G m L b) L c) (scB u n G L (.elem (.arg w) (.sub e (.sub b c))))
      have gc1 := mxB_ge (u := u) (n := n) (G := G) _ c (Nat.lt_succ_self _) (mxB u n G m L b) L
      have gb1 := mxB_ge (u := u) (n := n) (G := G) _ b (Nat.lt_succ_self _) m L
      have nfe : nfE u n G L e = [] := by
        by_cases c19 : kd u n w = 19
        · rw [if_pos c19] at nf1
          exact (List.append_eq_nil_iff.mp nf1).2
        · rw [if_neg c19] at nf1
          by_cases c2 : kd u n w = 2
          · rw [if_pos c2] at nf1
            exact (List.append_eq_nil_iff.mp nf1).2
          · rw [if_neg c2] at nf1
            exact (List.append_eq_nil_iff.mp nf1).1
      have bnd := (E_bnd (L := L) h6 _ e (Nat.lt_succ_self _)).1 w2 nfe
      have hlen : ∀ pc, (coE u n G L e pc).length ≤ 281 := fun pc => by have := bnd.1 pc; omega
      have hTe : B + sl + tdE 0 e ≤ M := by have := bnd.2.2; omega
      have he := (SE_all (L := L) hn hu hM hcl hsc _ e (Nat.lt_succ_self _)).1 w2 nfe
      have hscL : L.length ≤ (if kd u n w = 19 then max m (L.length + 1) else mxB u n G (mxB u n G m L b) L c) ∧ (scB u n G L (.elem (.arg w) (.sub e (.sub b c)))).length ≤ (if kd u n w = 19 then max m (L.length + 1) else mxB u n G (mxB u n G m L b) L c) := by
        show _ ∧ (if kd u n w = 19 then L ++ [(vl u n (w + 1), tyE u n G L e)] else L).length ≤ _
        by_cases c19 : kd u n w = 19
        · rw [if_pos c19, if_pos c19, List.length_append]
          show _ ∧ L.length + 1 ≤ _
          omega
        · rw [if_neg c19, if_neg c19]
          omega
      have hs : SB t D v0 u n z dp FB G cl B bk sl L (.elem (.arg w) (.sub e (.sub b c))) := by
        by_cases c19 : kd u n w = 19
        · have ct : c = .thrown := w5 (by omega)
          subst ct
          rw [if_pos c19] at gm hscL hmx
          exact sb_let hcl w2 he hlen hTe (by omega) c19
        rw [if_neg c19] at gm hscL hmx nf1
        by_cases c2 : kd u n w = 2
        · have ct : c = .thrown := w5 (by omega)
          subst ct
          rw [if_pos c2] at nf1
          refine sb_give hcl w2 he hlen hTe (by omega) c2 (fun q => ?_)
          rw [if_pos q] at nf1
          cases nf1
        rw [if_neg c2] at nf1
        obtain ⟨-, nfbc⟩ := List.append_eq_nil_iff.mp nf1
        obtain ⟨nfb, nfc⟩ := List.append_eq_nil_iff.mp nfbc
        by_cases c22 : kd u n w = 22
        · have ct : c = .thrown := w5 (by omega)
          subst ct
          exact sb_ret hcl w2 he hlen hTe (by omega) c22
        by_cases c21 : kd u n w = 21
        · have ct : c = .thrown := w5 (by omega)
          subst ct
          exact sb_print hn hcl w2 he hlen hTe (by omega) c21
        by_cases c12 : kd u n w = 12
        · have ct : c = .thrown := w5 (by omega)
          subst ct
          exact sb_do hcl w2 he hlen hTe (by omega) c12
        have hb : SK t D v0 u n z dp FB G cl B bk sl L b := sk_of hcl (ih b (by simp at hsz; omega) w7 j d4 L m nfb hLm (by omega)) w7 d4 (by have := scB_mx (G := G) _ b (Nat.lt_succ_self _) w7 m L hLm; omega)
        by_cases c25 : kd u n w = 25
        · have ct : c = .thrown := w5 (by omega)
          subst ct
          exact sb_while hcl w2 he hlen hTe (by omega) hb w7 d4 c25
        have c16 : kd u n w = 16 := by
          unfold skd at w1
          rw [if_neg c19, if_neg c2] at w1
          by_cases q : kd u n w = 16
          · exact q
          · rw [if_neg q, if_neg c25, if_neg c22, if_neg c21, if_neg c12] at w1
            exact absurd rfl w1
        by_cases ct : c = .thrown
        · subst ct
          exact sb_if1 hcl w2 he hlen hTe (by omega) hb c16
        · have hc : SK t D v0 u n z dp FB G cl B bk sl L c := sk_of hcl (ih c (by simp at hsz; omega) w8 j d5 L (mxB u n G m L b) nfc (by omega) (by omega)) w8 d5 (by have := scB_mx (G := G) _ c (Nat.lt_succ_self _) w8 (mxB u n G m L b) L (by omega); omega)
          refine sb_if2 hcl w2 he hlen hTe (by omega) hb hc ?_ c16
          unfold wfS at w8
          split at w8
          · exact Or.inl rfl
          · exact absurd rfl ct
          · exact Or.inr ⟨_, _, rfl⟩
          · exact w8.elim
      have hr := ih r (by simp at hsz; omega) w9 h d6 (scB u n G L (.elem (.arg w) (.sub e (.sub b c)))) _ nf2 hscL.2 hmx
      intro S S0 ρ v pc i a Q hS h0 hat k h1 h2 ha hK
      have hat : AtK v0 pc (coB u n G L (.elem (.arg w) (.sub e (.sub b c))) pc ++ coB u n G (scB u n G L (.elem (.arg w) (.sub e (.sub b c)))) r (pc + (coB u n G L (.elem (.arg w) (.sub e (.sub b c))) pc).length)) := hat
      obtain ⟨at1, at2⟩ := hat.app
      have hpc : pc + (coB u n G L (.sub (.elem (.arg w) (.sub e (.sub b c))) r) pc).length = pc + (coB u n G L (.elem (.arg w) (.sub e (.sub b c))) pc).length + (coB u n G (scB u n G L (.elem (.arg w) (.sub e (.sub b c)))) r (pc + (coB u n G L (.elem (.arg w) (.sub e (.sub b c))) pc).length)).length := by
        show pc + (coB u n G L (.elem (.arg w) (.sub e (.sub b c))) pc ++ coB u n G (scB u n G L (.elem (.arg w) (.sub e (.sub b c)))) r (pc + (coB u n G L (.elem (.arg w) (.sub e (.sub b c))) pc).length)).length = _
        rw [List.length_append]; omega
      rw [hpc] at hK
      have hK : KY t D v0 n z dp _ FB B bk S0 a Q (bS (evB u n G (v0 14) z cl B L (.elem (.arg w) (.sub e (.sub b c))) S ρ) (fun S1 ρ1 => evB u n G (v0 14) z cl B (scB u n G L (.elem (.arg w) (.sub e (.sub b c)))) r S1 ρ1)) := hK
      refine hs S S0 ρ v pc i a Q hS h0 at1 k h1 h2 ha (hK.bnd (by omega) (fun S1 ρ1 er hk v1 i1 k1 c1 c2 => ?_))
      have wf1 : wfS (kd u n) (.sub (.elem (.arg w) (.sub e (.sub b c))) .null) := ⟨w1, w2, w3, w4, w5, w6, w7, w8, trivial⟩
      have bd1 : bdS (.sub (.elem (.arg w) (.sub e (.sub b c))) .null) h := ⟨⟨⟨d1, d2⟩, j, d3, d4, d5⟩, trivial⟩
      have ok : oKS B 0 S ρ (evB u n G (v0 14) z cl B L (.sub (.elem (.arg w) (.sub e (.sub b c))) .null) S ρ) := evB_ok hcl _ _ (Nat.lt_succ_self _) wf1 h bd1 L S ρ k.2.2.2.2.1.1
      have ok : oKS B 0 S ρ (bS (evB u n G (v0 14) z cl B L (.elem (.arg w) (.sub e (.sub b c))) S ρ) (fun S1 ρ1 => .ok (false, S1, ρ1))) := ok
      rw [er] at ok
      have ok : oKS B 0 S ρ (.ok (false, S1, ρ1)) := ok
      exact hr S1 S0 ρ1 v1 _ i1 a Q (ok.2.1.trans hS) (ok.2.2.trans h0) at2 k1 c1 c2 ha hk
    · exact hw.elim
